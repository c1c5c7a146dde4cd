abbrev w_X8_in : List Cond := Cond.code yX8_in cX8_in 3 (some .boolean) :: zAll
abbrev r_X8_in : Room := { frames := 0, cells := 0, slots := 0, locals := 0 }
theorem zd_X8_in : yX8_in.cls ≠ "java/lang/invoke/MethodHandle" ∧ yX8_in.cls ≠ "java/lang/invoke/VarHandle" ∧ (parseMethodDescriptor yX8_in.desc).map (fun d => d.parameters.length) = some 3 := by decide +kernel
set_option maxHeartbeats 4000000 in
set_option maxRecDepth 100000 in
theorem c_X8_in (l : Launch) (D : va_G) (cy : Nat → ClassId) (v_ : Int32) (a_ : Int32) (b_ : Int32) : zMi l yX8_in w_X8_in r_X8_in D cy [] [.int v_, .int a_, .int b_] (fun r_ => r_ = (if (a_.toInt ≤ v_.toInt ∧ v_.toInt ≤ b_.toInt) then 1 else 0)) := by
  refine zOfR (cc := cX8_in) (maxL := 3) (ty := .boolean) (by decide) rfl (Nat.le_of_ble_eq_true rfl) ?_
  intro zp ze zs zm za zb zme zc hx hb hml hts hown hP hK Q kr ls hl
  have hown : zs.vm.findClass RX8 = some zm.cls := hown
  have hl : lv_has ls 3 [(0, .int v_), (1, .int a_), (2, .int b_)] := hl
  refine lv_iload_n hx hb dX8_in_0 rfl (lv_at hl 0 rfl) ?_
  refine lv_iload_n hx hb dX8_in_1 rfl (lv_at hl 1 rfl) ?_
  refine zt_lt (a := (v_).toInt) (b := (a_).toInt) (tgt := 14) hx hb dX8_in_2 (by decide) rfl rfl (fun c2 => ?_) (fun c2 => ?_)
  · skip
    refine lv_iconst (v := nI 0) hx hb dX8_in_14 (by decide) ?_
    exact kr _ _ _ dX8_in_15 rfl (by rw [if_neg (by omega)]; rfl)
  · skip
    refine lv_iload_n hx hb dX8_in_5 rfl (lv_at hl 0 rfl) ?_
    refine lv_iload_n hx hb dX8_in_6 rfl (lv_at hl 2 rfl) ?_
    refine zt_gt (a := (v_).toInt) (b := (b_).toInt) (tgt := 14) hx hb dX8_in_7 (by decide) rfl rfl (fun c7 => ?_) (fun c7 => ?_)
    · skip
      refine lv_iconst (v := nI 0) hx hb dX8_in_14 (by decide) ?_
      exact kr _ _ _ dX8_in_15 rfl (by rw [if_neg (by omega)]; rfl)
    · skip
      refine lv_iconst (v := nI 1) hx hb dX8_in_10 (by decide) ?_
      refine lv_goto (tgt := 15) hx hb dX8_in_11 (by decide) ?_
      exact kr _ _ _ dX8_in_15 rfl (by rw [if_pos (by omega)]; rfl)
abbrev w_X8_isMark : List Cond := Cond.code yX8_isMark cX8_isMark 2 (some .boolean) :: zAll
abbrev r_X8_isMark : Room := { frames := 1, cells := 0, slots := 0, locals := 22 }
theorem zd_X8_isMark : yX8_isMark.cls = RX8 ∧ yX8_isMark.cls ≠ "java/lang/invoke/MethodHandle" ∧ yX8_isMark.cls ≠ "java/lang/invoke/VarHandle" ∧ (parseMethodDescriptor yX8_isMark.desc).map (fun d => d.parameters.length) = some 1 := by decide +kernel
set_option maxHeartbeats 4000000 in
set_option maxRecDepth 100000 in
theorem c_X8_isMark (l : Launch) (D : va_G) (cy : Nat → ClassId) (bd : Nat → Nat) (um_ : Nat) (ln_ : Nat) (at_ : Nat) (iw_ : Bool) (f_ : Nat → Nat) (x_ : Int32) (hK_ : f_ 1 ≤ 6) : zMi l yX8_isMark w_X8_isMark r_X8_isMark D cy [((bd 0), .inr (5, [.int (nI 0), .ref (bd 1), .ref (bd 2), .int (nI um_), .ref (bd 3), .ref (bd 4), .ref (bd 5), .int (nI ln_), .int (nI at_), .int (if iw_ = true then 1 else 0), .ref (bd 6), .ref (bd 7), .ref (bd 8), .ref (bd 9), .ref (bd 10), .ref (bd 11), .ref (bd 12), .ref (bd 13), .ref (bd 14)])), ((bd 1), .inl (cy 0, 130, .inl (nIf f_)))] [.ref (bd 0), .int x_] (fun r_ => r_ = (if (0 ≤ x_.toInt ∧ x_.toInt < (f_ 1 : Int)) then 1 else 0)) := by
  refine zOfR (cc := cX8_isMark) (maxL := 2) (ty := .boolean) (by decide) rfl (Nat.le_of_ble_eq_true rfl) ?_
  intro zp ze zs zm za zb zme zc hx hb hml hts hown hP hK Q kr ls hl
  have hown : zs.vm.findClass RX8 = some zm.cls := hown
  have hl : lv_has ls 2 [(0, .ref (bd 0)), (1, .int x_)] := hl
  refine lv_iload_n hx hb dX8_isMark_0 rfl (lv_at hl 1 rfl) ?_
  refine lv_iconst (v := nI 0) hx hb dX8_isMark_1 (by decide) ?_
  refine lv_aload_n hx hb dX8_isMark_2 rfl (lv_at hl 0 rfl) ?_
  refine va_get (D := D) (ci := 5) (v := .ref (bd 1)) (C := RX8) (T := TX8) (N := 19) hx hb hts (fun w h => List.mem_cons_of_mem _ (zinX8 w h)) hown hK.1 hP 0 rfl rfl 1 (by decide) (hts _ (List.mem_cons_of_mem _ zw_74)) (fun _ h9 => h9) rfl dX8_isMark_3 ?_
  refine lv_iconst (v := nI 1) hx hb dX8_isMark_6 (by decide) ?_
  refine zi_iald (v := nI (f_ 1)) hx hb hK hP 1 rfl (by omega) (by omega) rfl dX8_isMark_7 ?_
  refine lv_iconst (v := nI 1) hx hb dX8_isMark_8 (by decide) ?_
  refine zi_sub (v := (nI (f_ 1)) - (nI 1)) hx hb dX8_isMark_9 rfl ?_
  refine zcSi (As := [.int x_, .int (nI 0), .int ((nI (f_ 1)) - (nI 1))]) (rest := []) ⟨hx, hb, hml, hown, hts⟩ (c_X8_in l D cy x_ (nI 0) ((nI (f_ 1)) - (nI 1))) (va_cwS 3 hts (zG_S zw_121 zw_122 zw_5 zw_123) rfl rfl rfl zd_X8_in ⟨Nat.le_of_ble_eq_true rfl, Nat.le_of_ble_eq_true rfl⟩) hK hP [] rfl rfl hl.1 rfl (Nat.le_of_ble_eq_true rfl) dX8_isMark_10 ⟨Nat.zero_le _, Nat.zero_le _⟩ (fun r10 h10 => ?_)
  subst h10
  exact kr _ _ _ dX8_isMark_13 (zz_narb _) (zz_ifc (by rw [show (nI 0).toInt = 0 from rfl, pk_sub_toInt (by omega) (by omega)]; omega))
abbrev w_X8_isPlace : List Cond := Cond.code yX8_isPlace cX8_isPlace 2 (some .boolean) :: zAll
abbrev r_X8_isPlace : Room := { frames := 1, cells := 0, slots := 0, locals := 22 }
theorem zd_X8_isPlace : yX8_isPlace.cls = RX8 ∧ yX8_isPlace.cls ≠ "java/lang/invoke/MethodHandle" ∧ yX8_isPlace.cls ≠ "java/lang/invoke/VarHandle" ∧ (parseMethodDescriptor yX8_isPlace.desc).map (fun d => d.parameters.length) = some 1 := by decide +kernel
set_option maxHeartbeats 4000000 in
set_option maxRecDepth 100000 in
theorem c_X8_isPlace (l : Launch) (D : va_G) (cy : Nat → ClassId) (bd : Nat → Nat) (um_ : Nat) (ln_ : Nat) (at_ : Nat) (iw_ : Bool) (f_ : Nat → Nat) (x_ : Int32) (hN_ : f_ 0 ≤ 16) : zMi l yX8_isPlace w_X8_isPlace r_X8_isPlace D cy [((bd 0), .inr (5, [.int (nI 0), .ref (bd 1), .ref (bd 2), .int (nI um_), .ref (bd 3), .ref (bd 4), .ref (bd 5), .int (nI ln_), .int (nI at_), .int (if iw_ = true then 1 else 0), .ref (bd 6), .ref (bd 7), .ref (bd 8), .ref (bd 9), .ref (bd 10), .ref (bd 11), .ref (bd 12), .ref (bd 13), .ref (bd 14)])), ((bd 1), .inl (cy 0, 130, .inl (nIf f_)))] [.ref (bd 0), .int x_] (fun r_ => r_ = (if (0 ≤ x_.toInt ∧ x_.toInt < (f_ 0 : Int)) then 1 else 0)) := by
  refine zOfR (cc := cX8_isPlace) (maxL := 2) (ty := .boolean) (by decide) rfl (Nat.le_of_ble_eq_true rfl) ?_
  intro zp ze zs zm za zb zme zc hx hb hml hts hown hP hK Q kr ls hl
  have hown : zs.vm.findClass RX8 = some zm.cls := hown
  have hl : lv_has ls 2 [(0, .ref (bd 0)), (1, .int x_)] := hl
  refine lv_iload_n hx hb dX8_isPlace_0 rfl (lv_at hl 1 rfl) ?_
  refine lv_iconst (v := nI 0) hx hb dX8_isPlace_1 (by decide) ?_
  refine lv_aload_n hx hb dX8_isPlace_2 rfl (lv_at hl 0 rfl) ?_
  refine va_get (D := D) (ci := 5) (v := .ref (bd 1)) (C := RX8) (T := TX8) (N := 19) hx hb hts (fun w h => List.mem_cons_of_mem _ (zinX8 w h)) hown hK.1 hP 0 rfl rfl 1 (by decide) (hts _ (List.mem_cons_of_mem _ zw_74)) (fun _ h9 => h9) rfl dX8_isPlace_3 ?_
  refine lv_iconst (v := nI 0) hx hb dX8_isPlace_6 (by decide) ?_
  refine zi_iald (v := nI (f_ 0)) hx hb hK hP 1 rfl (by omega) (by omega) rfl dX8_isPlace_7 ?_
  refine lv_iconst (v := nI 1) hx hb dX8_isPlace_8 (by decide) ?_
  refine zi_sub (v := (nI (f_ 0)) - (nI 1)) hx hb dX8_isPlace_9 rfl ?_
  refine zcSi (As := [.int x_, .int (nI 0), .int ((nI (f_ 0)) - (nI 1))]) (rest := []) ⟨hx, hb, hml, hown, hts⟩ (c_X8_in l D cy x_ (nI 0) ((nI (f_ 0)) - (nI 1))) (va_cwS 3 hts (zG_S zw_121 zw_122 zw_5 zw_123) rfl rfl rfl zd_X8_in ⟨Nat.le_of_ble_eq_true rfl, Nat.le_of_ble_eq_true rfl⟩) hK hP [] rfl rfl hl.1 rfl (Nat.le_of_ble_eq_true rfl) dX8_isPlace_10 ⟨Nat.zero_le _, Nat.zero_le _⟩ (fun r10 h10 => ?_)
  subst h10
  exact kr _ _ _ dX8_isPlace_13 (zz_narb _) (zz_ifc (by rw [show (nI 0).toInt = 0 from rfl, pk_sub_toInt (by omega) (by omega)]; omega))
abbrev w_X8_isMarkOrTrick : List Cond := Cond.code yX8_isMarkOrTrick cX8_isMarkOrTrick 2 (some .boolean) :: zAll
abbrev r_X8_isMarkOrTrick : Room := { frames := 2, cells := 0, slots := 0, locals := 43 }
theorem zd_X8_isMarkOrTrick : yX8_isMarkOrTrick.cls = RX8 ∧ yX8_isMarkOrTrick.cls ≠ "java/lang/invoke/MethodHandle" ∧ yX8_isMarkOrTrick.cls ≠ "java/lang/invoke/VarHandle" ∧ (parseMethodDescriptor yX8_isMarkOrTrick.desc).map (fun d => d.parameters.length) = some 1 := by decide +kernel
set_option maxHeartbeats 4000000 in
set_option maxRecDepth 100000 in
theorem c_X8_isMarkOrTrick (l : Launch) (D : va_G) (cy : Nat → ClassId) (bd : Nat → Nat) (um_ : Nat) (ln_ : Nat) (at_ : Nat) (iw_ : Bool) (f_ : Nat → Nat) (x_ : Int32) (hK_ : f_ 1 ≤ 6) : zMi l yX8_isMarkOrTrick w_X8_isMarkOrTrick r_X8_isMarkOrTrick D cy [((bd 0), .inr (5, [.int (nI 0), .ref (bd 1), .ref (bd 2), .int (nI um_), .ref (bd 3), .ref (bd 4), .ref (bd 5), .int (nI ln_), .int (nI at_), .int (if iw_ = true then 1 else 0), .ref (bd 6), .ref (bd 7), .ref (bd 8), .ref (bd 9), .ref (bd 10), .ref (bd 11), .ref (bd 12), .ref (bd 13), .ref (bd 14)])), ((bd 1), .inl (cy 0, 130, .inl (nIf f_)))] [.ref (bd 0), .int x_] (fun r_ => r_ = (if (x_.toInt = -6 ∨ (0 ≤ x_.toInt ∧ x_.toInt < (f_ 1 : Int))) then 1 else 0)) := by
  refine zOfR (cc := cX8_isMarkOrTrick) (maxL := 2) (ty := .boolean) (by decide) rfl (Nat.le_of_ble_eq_true rfl) ?_
  intro zp ze zs zm za zb zme zc hx hb hml hts hown hP hK Q kr ls hl
  have hown : zs.vm.findClass RX8 = some zm.cls := hown
  have hl : lv_has ls 2 [(0, .ref (bd 0)), (1, .int x_)] := hl
  refine lv_iload_n hx hb dX8_isMarkOrTrick_0 rfl (lv_at hl 1 rfl) ?_
  refine lv_bipush (v := (-6)) hx hb dX8_isMarkOrTrick_1 (by decide) ?_
  refine zt_eq (a := (x_).toInt) (b := (-6)) (tgt := 14) hx hb dX8_isMarkOrTrick_3 (by decide) rfl rfl (fun c3 => ?_) (fun c3 => ?_)
  · skip
    refine lv_iconst (v := nI 1) hx hb dX8_isMarkOrTrick_14 (by decide) ?_
    refine lv_goto (tgt := 19) hx hb dX8_isMarkOrTrick_15 (by decide) ?_
    exact kr _ _ _ dX8_isMarkOrTrick_19 rfl (by rw [if_pos (by omega)]; rfl)
  · skip
    refine lv_aload_n hx hb dX8_isMarkOrTrick_6 rfl (lv_at hl 0 rfl) ?_
    refine lv_iload_n hx hb dX8_isMarkOrTrick_7 rfl (lv_at hl 1 rfl) ?_
    refine zcRi (As := [.int x_]) (rest := []) ⟨hx, hb, hml, hown, hts⟩ (c_X8_isMark l D cy bd um_ ln_ at_ iw_ f_ x_ (by omega)) (cwV 1 hts (zG_V zw_253 zw_254 zw_255 zw_5 zw_256) rfl rfl rfl zd_X8_isMark ⟨Nat.le_of_ble_eq_true rfl, Nat.le_of_ble_eq_true rfl⟩) hK hP [0, 1] rfl rfl rfl rfl rfl hl.1 rfl (Nat.le_of_ble_eq_true rfl) dX8_isMarkOrTrick_8 ⟨Nat.zero_le _, Nat.zero_le _⟩ (fun r8 h8 => ?_)
    subst h8
    refine zq_eq (tgt := 18) hx hb dX8_isMarkOrTrick_11 (by decide) (fun c11 => ?_) (fun c11 => ?_)
    · skip
      refine lv_iconst (v := nI 0) hx hb dX8_isMarkOrTrick_18 (by decide) ?_
      exact kr _ _ _ dX8_isMarkOrTrick_19 rfl (by rw [if_neg (by omega)]; rfl)
    · skip
      refine lv_iconst (v := nI 1) hx hb dX8_isMarkOrTrick_14 (by decide) ?_
      refine lv_goto (tgt := 19) hx hb dX8_isMarkOrTrick_15 (by decide) ?_
      exact kr _ _ _ dX8_isMarkOrTrick_19 rfl (by rw [if_pos (by omega)]; rfl)
abbrev w_X8_goesTo : List Cond := Cond.code yX8_goesTo cX8_goesTo 3 (some .int) :: zAll
abbrev r_X8_goesTo : Room := { frames := 0, cells := 0, slots := 0, locals := 0 }
theorem zd_X8_goesTo : yX8_goesTo.cls = RX8 ∧ yX8_goesTo.cls ≠ "java/lang/invoke/MethodHandle" ∧ yX8_goesTo.cls ≠ "java/lang/invoke/VarHandle" ∧ (parseMethodDescriptor yX8_goesTo.desc).map (fun d => d.parameters.length) = some 2 := by decide +kernel
set_option maxHeartbeats 4000000 in
set_option maxRecDepth 100000 in
theorem c_X8_goesTo (l : Launch) (D : va_G) (cy : Nat → ClassId) (bd : Nat → Nat) (um_ : Nat) (ln_ : Nat) (at_ : Nat) (iw_ : Bool) (f_ : Nat → Nat) (x_ : Int32) (p_ : Nat) (hx_ : x_.toInt = -6 ∨ (0 ≤ x_.toInt ∧ x_.toInt < 6)) (hp : p_ < 16) : zMi l yX8_goesTo w_X8_goesTo r_X8_goesTo D cy [((bd 0), .inr (5, [.int (nI 0), .ref (bd 1), .ref (bd 2), .int (nI um_), .ref (bd 3), .ref (bd 4), .ref (bd 5), .int (nI ln_), .int (nI at_), .int (if iw_ = true then 1 else 0), .ref (bd 6), .ref (bd 7), .ref (bd 8), .ref (bd 9), .ref (bd 10), .ref (bd 11), .ref (bd 12), .ref (bd 13), .ref (bd 14)])), ((bd 1), .inl (cy 0, 130, .inl (nIf f_)))] [.ref (bd 0), .int x_, .int (nI p_)] (fun r_ => r_ = (nI (gTo f_ x_ p_))) := by
  refine zOfR (cc := cX8_goesTo) (maxL := 3) (ty := .int) (by decide) rfl (Nat.le_of_ble_eq_true rfl) ?_
  intro zp ze zs zm za zb zme zc hx hb hml hts hown hP hK Q kr ls hl
  have hown : zs.vm.findClass RX8 = some zm.cls := hown
  have hl : lv_has ls 3 [(0, .ref (bd 0)), (1, .int x_), (2, .int (nI p_))] := hl
  refine lv_iload_n hx hb dX8_goesTo_0 rfl (lv_at hl 1 rfl) ?_
  refine lv_bipush (v := (-6)) hx hb dX8_goesTo_1 (by decide) ?_
  refine zt_ne (a := (x_).toInt) (b := (-6)) (tgt := 18) hx hb dX8_goesTo_3 (by decide) rfl rfl (fun c3 => ?_) (fun c3 => ?_)
  · skip
    refine lv_aload_n hx hb dX8_goesTo_18 rfl (lv_at hl 0 rfl) ?_
    refine va_get (D := D) (ci := 5) (v := .ref (bd 1)) (C := RX8) (T := TX8) (N := 19) hx hb hts (fun w h => List.mem_cons_of_mem _ (zinX8 w h)) hown hK.1 hP 0 rfl rfl 1 (by decide) (hts _ (List.mem_cons_of_mem _ zw_74)) (fun _ h9 => h9) rfl dX8_goesTo_19 ?_
    refine lv_bipush (v := nI 34) hx hb dX8_goesTo_22 (by decide) ?_
    refine lv_bipush (v := nI 16) hx hb dX8_goesTo_24 (by decide) ?_
    refine lv_iload_n hx hb dX8_goesTo_26 rfl (lv_at hl 1 rfl) ?_
    obtain ⟨j_, hj_, ej_⟩ := zz_rng (n := 6) (x := x_) (by omega)
    refine zi_top (v := nI j_) ej_ ?_
    refine zi_mul (v := nI (16 * j_)) hx hb dX8_goesTo_27 (pk_mul _ _) ?_
    refine zi_add (v := nI (34 + (16 * j_))) hx hb dX8_goesTo_28 (nI_add _ _) ?_
    refine lv_iload_n hx hb dX8_goesTo_29 rfl (lv_at hl 2 rfl) ?_
    refine zi_add (v := nI ((34 + (16 * j_)) + p_)) hx hb dX8_goesTo_30 (nI_add _ _) ?_
    refine zi_iald (v := nI (f_ ((34 + (16 * j_)) + p_))) hx hb hK hP 1 rfl (by omega) (by omega) rfl dX8_goesTo_31 ?_
    exact kr _ _ _ dX8_goesTo_32 (vp_nar_int _) (congrArg nI (by unfold gTo; rw [if_neg (by omega), ej_, ix_nI (by omega)]))
  · skip
    refine lv_aload_n hx hb dX8_goesTo_6 rfl (lv_at hl 0 rfl) ?_
    refine va_get (D := D) (ci := 5) (v := .ref (bd 1)) (C := RX8) (T := TX8) (N := 19) hx hb hts (fun w h => List.mem_cons_of_mem _ (zinX8 w h)) hown hK.1 hP 0 rfl rfl 1 (by decide) (hts _ (List.mem_cons_of_mem _ zw_74)) (fun _ h9 => h9) rfl dX8_goesTo_7 ?_
    refine lv_bipush (v := nI 18) hx hb dX8_goesTo_10 (by decide) ?_
    refine lv_iload_n hx hb dX8_goesTo_12 rfl (lv_at hl 2 rfl) ?_
    refine zi_add (v := nI (18 + p_)) hx hb dX8_goesTo_13 (nI_add _ _) ?_
    refine zi_iald (v := nI (f_ (18 + p_))) hx hb hK hP 1 rfl (by omega) (by omega) rfl dX8_goesTo_14 ?_
    refine lv_goto (tgt := 32) hx hb dX8_goesTo_15 (by decide) ?_
    exact kr _ _ _ dX8_goesTo_32 (vp_nar_int _) (congrArg nI (by unfold gTo; rw [if_pos (by omega)]))
abbrev w_X8_fetches : List Cond := Cond.code yX8_fetches cX8_fetches 4 none :: zAll
abbrev r_X8_fetches : Room := { frames := 1, cells := 0, slots := 0, locals := 22 }
theorem zd_X8_fetches : yX8_fetches.cls = RX8 ∧ yX8_fetches.cls ≠ "java/lang/invoke/MethodHandle" ∧ yX8_fetches.cls ≠ "java/lang/invoke/VarHandle" ∧ (parseMethodDescriptor yX8_fetches.desc).map (fun d => d.parameters.length) = some 2 := by decide +kernel
set_option maxHeartbeats 4000000 in
set_option maxRecDepth 100000 in
theorem c_X8_fetches (l : Launch) (D : va_G) (cy : Nat → ClassId) (sz : Nat) (bd : Nat → Nat) (um_ : Nat) (ln_ : Nat) (at_ : Nat) (iw_ : Bool) (f_ : Nat → Nat) (ra_ : Nat) (rc_ : Nat → Nat) (x_ : Int32) (hN_ : f_ 0 ≤ 16) (hx_ : x_.toInt = -6 ∨ (0 ≤ x_.toInt ∧ x_.toInt < 6)) : zWv l yX8_fetches w_X8_fetches r_X8_fetches D cy [((bd 0), .inr (5, [.int (nI 0), .ref (bd 1), .ref (bd 2), .int (nI um_), .ref (bd 3), .ref (bd 4), .ref (bd 5), .int (nI ln_), .int (nI at_), .int (if iw_ = true then 1 else 0), .ref (bd 6), .ref (bd 7), .ref (bd 8), .ref (bd 9), .ref (bd 10), .ref (bd 11), .ref (bd 12), .ref (bd 13), .ref (bd 14)])), ((bd 1), .inl (cy 0, 130, .inl (nIf f_))), (ra_, .inl (cy 0, 16, .inl (nIf rc_)))] sz [.ref (bd 0), .ref ra_, .int x_] (fun u : Unit => True) (fun u : Unit => ([((bd 0), .inr (5, [.int (nI 0), .ref (bd 1), .ref (bd 2), .int (nI um_), .ref (bd 3), .ref (bd 4), .ref (bd 5), .int (nI ln_), .int (nI at_), .int (if iw_ = true then 1 else 0), .ref (bd 6), .ref (bd 7), .ref (bd 8), .ref (bd 9), .ref (bd 10), .ref (bd 11), .ref (bd 12), .ref (bd 13), .ref (bd 14)])), ((bd 1), .inl (cy 0, 130, .inl (nIf f_))), (ra_, .inl (cy 0, 16, .inl (nIf (fil (gTo f_ x_) rc_ (f_ 0)))))] : va_W)) 0 0 := by
  refine zOfV (cc := cX8_fetches) (maxL := 4) (by decide) rfl (Nat.le_of_ble_eq_true rfl) ?_
  intro zp ze zs zm za zb zme zc hx hb hml hts hown hP hK zA hD hA Q kr ls hl hin
  have hS : va_S zA zs.heap zs.heap [] := va_S.rf
  have hown : zs.vm.findClass RX8 = some zm.cls := hown
  have hl : lv_has ls 4 [(0, .ref (bd 0)), (1, .ref ra_), (2, .int x_)] := hl
  have hP := zP_rowN hP 2 (fil (gTo f_ x_) rc_ 0) rfl (fun j_ _ => congrFun (fil_0 (gTo f_ x_) rc_) j_)
  have hP : va_P D vwCl [((bd 0), .inr (5, [.int (nI 0), .ref (bd 1), .ref (bd 2), .int (nI um_), .ref (bd 3), .ref (bd 4), .ref (bd 5), .int (nI ln_), .int (nI at_), .int (if iw_ = true then 1 else 0), .ref (bd 6), .ref (bd 7), .ref (bd 8), .ref (bd 9), .ref (bd 10), .ref (bd 11), .ref (bd 12), .ref (bd 13), .ref (bd 14)])), ((bd 1), .inl (cy 0, 130, .inl (nIf f_))), (ra_, .inl (cy 0, 16, .inl (nIf (fil (gTo f_ x_) rc_ 0))))] zs.heap := hP
  have hD : va_D zA [((bd 0), .inr (5, [.int (nI 0), .ref (bd 1), .ref (bd 2), .int (nI um_), .ref (bd 3), .ref (bd 4), .ref (bd 5), .int (nI ln_), .int (nI at_), .int (if iw_ = true then 1 else 0), .ref (bd 6), .ref (bd 7), .ref (bd 8), .ref (bd 9), .ref (bd 10), .ref (bd 11), .ref (bd 12), .ref (bd 13), .ref (bd 14)])), ((bd 1), .inl (cy 0, 130, .inl (nIf f_))), (ra_, .inl (cy 0, 16, .inl (nIf (fil (gTo f_ x_) rc_ 0))))] := hD.set (p := 2) rfl
  refine lv_iconst (v := nI 0) hx hb dX8_fetches_0 (by decide) ?_
  refine lv_istore_n (lv' := [(3, .int (nI 0)), (0, .ref (bd 0)), (1, .ref ra_), (2, .int x_)]) hx hb dX8_fetches_1 rfl hl (by decide) rfl (fun ls hl => ?_)
  have L2 : ∀ (kf_ : Nat) (i_ : Nat) (hi : i_ ≤ f_ 0), f_ 0 - i_ < kf_ → ∀ (H : Heap) (locs : List Loc), va_P D vwCl [((bd 0), .inr (5, [.int (nI 0), .ref (bd 1), .ref (bd 2), .int (nI um_), .ref (bd 3), .ref (bd 4), .ref (bd 5), .int (nI ln_), .int (nI at_), .int (if iw_ = true then 1 else 0), .ref (bd 6), .ref (bd 7), .ref (bd 8), .ref (bd 9), .ref (bd 10), .ref (bd 11), .ref (bd 12), .ref (bd 13), .ref (bd 14)])), ((bd 1), .inl (cy 0, 130, .inl (nIf f_))), (ra_, .inl (cy 0, 16, .inl (nIf (fil (gTo f_ x_) rc_ i_))))] H → va_D zA [((bd 0), .inr (5, [.int (nI 0), .ref (bd 1), .ref (bd 2), .int (nI um_), .ref (bd 3), .ref (bd 4), .ref (bd 5), .int (nI ln_), .int (nI at_), .int (if iw_ = true then 1 else 0), .ref (bd 6), .ref (bd 7), .ref (bd 8), .ref (bd 9), .ref (bd 10), .ref (bd 11), .ref (bd 12), .ref (bd 13), .ref (bd 14)])), ((bd 1), .inl (cy 0, 130, .inl (nIf f_))), (ra_, .inl (cy 0, 16, .inl (nIf (fil (gTo f_ x_) rc_ i_))))] → va_S zA zs.heap H locs → ∀ ls : Array Slot, lv_has ls 4 [(0, .ref (bd 0)), (1, .ref ra_), (2, .int x_), (3, .int (nI i_))] → W zp l ze r_X8_fetches zs zm za zb zme zc H locs 0 0 Q (F0 zm 2 ls []) := by
    intro kf_
    induction kf_ with
    | zero => intro i_ hi hk_; exact absurd hk_ (Nat.not_lt_zero _)
    | succ kf_ ih2 =>
      intro i_ hi hk_ H locs hP hD hS ls hl
      refine lv_iload_n hx hb dX8_fetches_2 rfl (lv_at hl 3 rfl) ?_
      refine lv_aload_n hx hb dX8_fetches_3 rfl (lv_at hl 0 rfl) ?_
      refine va_get (D := D) (ci := 5) (v := .ref (bd 1)) (C := RX8) (T := TX8) (N := 19) hx hb hts (fun w h => List.mem_cons_of_mem _ (zinX8 w h)) hown hK.1 hP 0 rfl rfl 1 (by decide) (hts _ (List.mem_cons_of_mem _ zw_74)) (fun _ h9 => h9) rfl dX8_fetches_4 ?_
      refine lv_iconst (v := nI 0) hx hb dX8_fetches_7 (by decide) ?_
      refine zi_iald (v := nI (f_ 0)) hx hb hK hP 1 rfl (by omega) (by omega) rfl dX8_fetches_8 ?_
      refine zb_ge (a := i_) (b := f_ 0) (tgt := 27) hx hb dX8_fetches_9 (by decide) (by omega) (by omega) (fun c9 => ?_) (fun c9 => ?_)
      · skip
        have hP := zP_rowN hP 2 (fil (gTo f_ x_) rc_ (f_ 0)) rfl (fun j_ _ => by rw [show i_ = f_ 0 by omega])
        have hP : va_P D vwCl [((bd 0), .inr (5, [.int (nI 0), .ref (bd 1), .ref (bd 2), .int (nI um_), .ref (bd 3), .ref (bd 4), .ref (bd 5), .int (nI ln_), .int (nI at_), .int (if iw_ = true then 1 else 0), .ref (bd 6), .ref (bd 7), .ref (bd 8), .ref (bd 9), .ref (bd 10), .ref (bd 11), .ref (bd 12), .ref (bd 13), .ref (bd 14)])), ((bd 1), .inl (cy 0, 130, .inl (nIf f_))), (ra_, .inl (cy 0, 16, .inl (nIf (fil (gTo f_ x_) rc_ (f_ 0)))))] H := hP
        have hD : va_D zA [((bd 0), .inr (5, [.int (nI 0), .ref (bd 1), .ref (bd 2), .int (nI um_), .ref (bd 3), .ref (bd 4), .ref (bd 5), .int (nI ln_), .int (nI at_), .int (if iw_ = true then 1 else 0), .ref (bd 6), .ref (bd 7), .ref (bd 8), .ref (bd 9), .ref (bd 10), .ref (bd 11), .ref (bd 12), .ref (bd 13), .ref (bd 14)])), ((bd 1), .inl (cy 0, 130, .inl (nIf f_))), (ra_, .inl (cy 0, 16, .inl (nIf (fil (gTo f_ x_) rc_ (f_ 0)))))] := hD.set (p := 2) rfl
        exact kr () _ _ _ _ dX8_fetches_27 trivial hP hD hS
      · skip
        refine lv_aload_n hx hb dX8_fetches_12 rfl (lv_at hl 1 rfl) ?_
        refine lv_iload_n hx hb dX8_fetches_13 rfl (lv_at hl 3 rfl) ?_
        refine lv_aload_n hx hb dX8_fetches_14 rfl (lv_at hl 0 rfl) ?_
        refine lv_iload_n hx hb dX8_fetches_15 rfl (lv_at hl 2 rfl) ?_
        refine lv_iload_n hx hb dX8_fetches_16 rfl (lv_at hl 3 rfl) ?_
        refine zcRi (As := [.int x_, .int (nI i_)]) (rest := [.int (nI i_), .ref ra_]) ⟨hx, hb, hml, hown, hts⟩ (c_X8_goesTo l D cy bd um_ ln_ at_ iw_ f_ x_ i_ hx_ (by omega)) (cwV 2 hts (zG_V zw_261 zw_262 zw_263 zw_5 zw_264) rfl rfl rfl zd_X8_goesTo ⟨Nat.le_of_ble_eq_true rfl, Nat.le_of_ble_eq_true rfl⟩) hK hP [0, 1] rfl rfl rfl rfl rfl hl.1 rfl (Nat.le_of_ble_eq_true rfl) dX8_fetches_17 ⟨Nat.zero_le _, Nat.zero_le _⟩ (fun r17 h17 => ?_)
        subst h17
        refine zi_iast hx hb hK hP hD hS 2 rfl (by omega) (by omega) dX8_fetches_20 (fun H locs hP hD hS => ?_)
        rw [upd_nIf] at hP hD
        have hP : va_P D vwCl [((bd 0), .inr (5, [.int (nI 0), .ref (bd 1), .ref (bd 2), .int (nI um_), .ref (bd 3), .ref (bd 4), .ref (bd 5), .int (nI ln_), .int (nI at_), .int (if iw_ = true then 1 else 0), .ref (bd 6), .ref (bd 7), .ref (bd 8), .ref (bd 9), .ref (bd 10), .ref (bd 11), .ref (bd 12), .ref (bd 13), .ref (bd 14)])), ((bd 1), .inl (cy 0, 130, .inl (nIf f_))), (ra_, .inl (cy 0, 16, .inl (nIf (uN1 (fil (gTo f_ x_) rc_ i_) i_ (gTo f_ x_ i_)))))] H := hP
        have hD : va_D zA [((bd 0), .inr (5, [.int (nI 0), .ref (bd 1), .ref (bd 2), .int (nI um_), .ref (bd 3), .ref (bd 4), .ref (bd 5), .int (nI ln_), .int (nI at_), .int (if iw_ = true then 1 else 0), .ref (bd 6), .ref (bd 7), .ref (bd 8), .ref (bd 9), .ref (bd 10), .ref (bd 11), .ref (bd 12), .ref (bd 13), .ref (bd 14)])), ((bd 1), .inl (cy 0, 130, .inl (nIf f_))), (ra_, .inl (cy 0, 16, .inl (nIf (uN1 (fil (gTo f_ x_) rc_ i_) i_ (gTo f_ x_ i_)))))] := hD
        have hP := zP_rowN hP 2 (fil (gTo f_ x_) rc_ (i_ + 1)) rfl (fun j_ _ => congrFun (fil_s (gTo f_ x_) rc_ i_) j_)
        have hP : va_P D vwCl [((bd 0), .inr (5, [.int (nI 0), .ref (bd 1), .ref (bd 2), .int (nI um_), .ref (bd 3), .ref (bd 4), .ref (bd 5), .int (nI ln_), .int (nI at_), .int (if iw_ = true then 1 else 0), .ref (bd 6), .ref (bd 7), .ref (bd 8), .ref (bd 9), .ref (bd 10), .ref (bd 11), .ref (bd 12), .ref (bd 13), .ref (bd 14)])), ((bd 1), .inl (cy 0, 130, .inl (nIf f_))), (ra_, .inl (cy 0, 16, .inl (nIf (fil (gTo f_ x_) rc_ (i_ + 1)))))] H := hP
        have hD : va_D zA [((bd 0), .inr (5, [.int (nI 0), .ref (bd 1), .ref (bd 2), .int (nI um_), .ref (bd 3), .ref (bd 4), .ref (bd 5), .int (nI ln_), .int (nI at_), .int (if iw_ = true then 1 else 0), .ref (bd 6), .ref (bd 7), .ref (bd 8), .ref (bd 9), .ref (bd 10), .ref (bd 11), .ref (bd 12), .ref (bd 13), .ref (bd 14)])), ((bd 1), .inl (cy 0, 130, .inl (nIf f_))), (ra_, .inl (cy 0, 16, .inl (nIf (fil (gTo f_ x_) rc_ (i_ + 1)))))] := hD.set (p := 2) rfl
        refine lv_iinc (v := nI (i_ + 1)) (lv' := [(3, .int (nI (i_ + 1))), (0, .ref (bd 0)), (1, .ref ra_), (2, .int x_)]) hx hb dX8_fetches_21 hl (k := 3) rfl (nI_1 _) (by decide) rfl (fun ls hl => ?_)
        refine lv_goto (tgt := 2) hx hb dX8_fetches_24 (by decide) ?_
        exact ih2 (i_ + 1) (by omega) (by omega) _ _ hP hD hS _ (lv_sub hl [1, 2, 3, 0] rfl)
  exact L2 (f_ 0 - 0 + 1) 0 (Nat.zero_le _) (Nat.lt_succ_self _) _ _ hP hD hS _ (lv_sub hl [1, 2, 3, 0] rfl)
abbrev w_X8_laysCut : List Cond := Cond.code yX8_laysCut cX8_laysCut 4 none :: zAll
abbrev r_X8_laysCut : Room := { frames := 0, cells := 0, slots := 0, locals := 0 }
theorem zd_X8_laysCut : yX8_laysCut.cls = RX8 ∧ yX8_laysCut.cls ≠ "java/lang/invoke/MethodHandle" ∧ yX8_laysCut.cls ≠ "java/lang/invoke/VarHandle" ∧ (parseMethodDescriptor yX8_laysCut.desc).map (fun d => d.parameters.length) = some 2 := by decide +kernel
set_option maxHeartbeats 4000000 in
set_option maxRecDepth 100000 in
theorem c_X8_laysCut (l : Launch) (D : va_G) (cy : Nat → ClassId) (sz : Nat) (bd : Nat → Nat) (um_ : Nat) (ln_ : Nat) (at_ : Nat) (iw_ : Bool) (f_ : Nat → Nat) (ra_ : Nat) (rc_ : Nat → Nat) (k_ : Nat) (hN_ : f_ 0 ≤ 16) (hk : k_ < f_ 0) : zWv l yX8_laysCut w_X8_laysCut r_X8_laysCut D cy [((bd 0), .inr (5, [.int (nI 0), .ref (bd 1), .ref (bd 2), .int (nI um_), .ref (bd 3), .ref (bd 4), .ref (bd 5), .int (nI ln_), .int (nI at_), .int (if iw_ = true then 1 else 0), .ref (bd 6), .ref (bd 7), .ref (bd 8), .ref (bd 9), .ref (bd 10), .ref (bd 11), .ref (bd 12), .ref (bd 13), .ref (bd 14)])), ((bd 1), .inl (cy 0, 130, .inl (nIf f_))), (ra_, .inl (cy 0, 16, .inl (nIf rc_)))] sz [.ref (bd 0), .ref ra_, .int (nI k_)] (fun u : Unit => True) (fun u : Unit => ([((bd 0), .inr (5, [.int (nI 0), .ref (bd 1), .ref (bd 2), .int (nI um_), .ref (bd 3), .ref (bd 4), .ref (bd 5), .int (nI ln_), .int (nI at_), .int (if iw_ = true then 1 else 0), .ref (bd 6), .ref (bd 7), .ref (bd 8), .ref (bd 9), .ref (bd 10), .ref (bd 11), .ref (bd 12), .ref (bd 13), .ref (bd 14)])), ((bd 1), .inl (cy 0, 130, .inl (nIf f_))), (ra_, .inl (cy 0, 16, .inl (nIf (fil (cutF k_ (f_ 0)) rc_ (f_ 0)))))] : va_W)) 0 0 := by
  refine zOfV (cc := cX8_laysCut) (maxL := 4) (by decide) rfl (Nat.le_of_ble_eq_true rfl) ?_
  intro zp ze zs zm za zb zme zc hx hb hml hts hown hP hK zA hD hA Q kr ls hl hin
  have hS : va_S zA zs.heap zs.heap [] := va_S.rf
  have hown : zs.vm.findClass RX8 = some zm.cls := hown
  have hl : lv_has ls 4 [(0, .ref (bd 0)), (1, .ref ra_), (2, .int (nI k_))] := hl
  have hP := zP_rowN hP 2 (fil (cutF k_ (f_ 0)) rc_ 0) rfl (fun j_ _ => congrFun (fil_0 (cutF k_ (f_ 0)) rc_) j_)
  have hP : va_P D vwCl [((bd 0), .inr (5, [.int (nI 0), .ref (bd 1), .ref (bd 2), .int (nI um_), .ref (bd 3), .ref (bd 4), .ref (bd 5), .int (nI ln_), .int (nI at_), .int (if iw_ = true then 1 else 0), .ref (bd 6), .ref (bd 7), .ref (bd 8), .ref (bd 9), .ref (bd 10), .ref (bd 11), .ref (bd 12), .ref (bd 13), .ref (bd 14)])), ((bd 1), .inl (cy 0, 130, .inl (nIf f_))), (ra_, .inl (cy 0, 16, .inl (nIf (fil (cutF k_ (f_ 0)) rc_ 0))))] zs.heap := hP
  have hD : va_D zA [((bd 0), .inr (5, [.int (nI 0), .ref (bd 1), .ref (bd 2), .int (nI um_), .ref (bd 3), .ref (bd 4), .ref (bd 5), .int (nI ln_), .int (nI at_), .int (if iw_ = true then 1 else 0), .ref (bd 6), .ref (bd 7), .ref (bd 8), .ref (bd 9), .ref (bd 10), .ref (bd 11), .ref (bd 12), .ref (bd 13), .ref (bd 14)])), ((bd 1), .inl (cy 0, 130, .inl (nIf f_))), (ra_, .inl (cy 0, 16, .inl (nIf (fil (cutF k_ (f_ 0)) rc_ 0))))] := hD.set (p := 2) rfl
  refine lv_iconst (v := nI 0) hx hb dX8_laysCut_0 (by decide) ?_
  refine lv_istore_n (lv' := [(3, .int (nI 0)), (0, .ref (bd 0)), (1, .ref ra_), (2, .int (nI k_))]) hx hb dX8_laysCut_1 rfl hl (by decide) rfl (fun ls hl => ?_)
  have L2 : ∀ (kf_ : Nat) (i_ : Nat) (hi : i_ ≤ f_ 0), f_ 0 - i_ < kf_ → ∀ (H : Heap) (locs : List Loc), va_P D vwCl [((bd 0), .inr (5, [.int (nI 0), .ref (bd 1), .ref (bd 2), .int (nI um_), .ref (bd 3), .ref (bd 4), .ref (bd 5), .int (nI ln_), .int (nI at_), .int (if iw_ = true then 1 else 0), .ref (bd 6), .ref (bd 7), .ref (bd 8), .ref (bd 9), .ref (bd 10), .ref (bd 11), .ref (bd 12), .ref (bd 13), .ref (bd 14)])), ((bd 1), .inl (cy 0, 130, .inl (nIf f_))), (ra_, .inl (cy 0, 16, .inl (nIf (fil (cutF k_ (f_ 0)) rc_ i_))))] H → va_D zA [((bd 0), .inr (5, [.int (nI 0), .ref (bd 1), .ref (bd 2), .int (nI um_), .ref (bd 3), .ref (bd 4), .ref (bd 5), .int (nI ln_), .int (nI at_), .int (if iw_ = true then 1 else 0), .ref (bd 6), .ref (bd 7), .ref (bd 8), .ref (bd 9), .ref (bd 10), .ref (bd 11), .ref (bd 12), .ref (bd 13), .ref (bd 14)])), ((bd 1), .inl (cy 0, 130, .inl (nIf f_))), (ra_, .inl (cy 0, 16, .inl (nIf (fil (cutF k_ (f_ 0)) rc_ i_))))] → va_S zA zs.heap H locs → ∀ ls : Array Slot, lv_has ls 4 [(0, .ref (bd 0)), (1, .ref ra_), (2, .int (nI k_)), (3, .int (nI i_))] → W zp l ze r_X8_laysCut zs zm za zb zme zc H locs 0 0 Q (F0 zm 2 ls []) := by
    intro kf_
    induction kf_ with
    | zero => intro i_ hi hk_; exact absurd hk_ (Nat.not_lt_zero _)
    | succ kf_ ih2 =>
      intro i_ hi hk_ H locs hP hD hS ls hl
      refine lv_iload_n hx hb dX8_laysCut_2 rfl (lv_at hl 3 rfl) ?_
      refine lv_aload_n hx hb dX8_laysCut_3 rfl (lv_at hl 0 rfl) ?_
      refine va_get (D := D) (ci := 5) (v := .ref (bd 1)) (C := RX8) (T := TX8) (N := 19) hx hb hts (fun w h => List.mem_cons_of_mem _ (zinX8 w h)) hown hK.1 hP 0 rfl rfl 1 (by decide) (hts _ (List.mem_cons_of_mem _ zw_74)) (fun _ h9 => h9) rfl dX8_laysCut_4 ?_
      refine lv_iconst (v := nI 0) hx hb dX8_laysCut_7 (by decide) ?_
      refine zi_iald (v := nI (f_ 0)) hx hb hK hP 1 rfl (by omega) (by omega) rfl dX8_laysCut_8 ?_
      refine zb_ge (a := i_) (b := f_ 0) (tgt := 43) hx hb dX8_laysCut_9 (by decide) (by omega) (by omega) (fun c9 => ?_) (fun c9 => ?_)
      · skip
        have hP := zP_rowN hP 2 (fil (cutF k_ (f_ 0)) rc_ (f_ 0)) rfl (fun j_ _ => by rw [show i_ = f_ 0 by omega])
        have hP : va_P D vwCl [((bd 0), .inr (5, [.int (nI 0), .ref (bd 1), .ref (bd 2), .int (nI um_), .ref (bd 3), .ref (bd 4), .ref (bd 5), .int (nI ln_), .int (nI at_), .int (if iw_ = true then 1 else 0), .ref (bd 6), .ref (bd 7), .ref (bd 8), .ref (bd 9), .ref (bd 10), .ref (bd 11), .ref (bd 12), .ref (bd 13), .ref (bd 14)])), ((bd 1), .inl (cy 0, 130, .inl (nIf f_))), (ra_, .inl (cy 0, 16, .inl (nIf (fil (cutF k_ (f_ 0)) rc_ (f_ 0)))))] H := hP
        have hD : va_D zA [((bd 0), .inr (5, [.int (nI 0), .ref (bd 1), .ref (bd 2), .int (nI um_), .ref (bd 3), .ref (bd 4), .ref (bd 5), .int (nI ln_), .int (nI at_), .int (if iw_ = true then 1 else 0), .ref (bd 6), .ref (bd 7), .ref (bd 8), .ref (bd 9), .ref (bd 10), .ref (bd 11), .ref (bd 12), .ref (bd 13), .ref (bd 14)])), ((bd 1), .inl (cy 0, 130, .inl (nIf f_))), (ra_, .inl (cy 0, 16, .inl (nIf (fil (cutF k_ (f_ 0)) rc_ (f_ 0)))))] := hD.set (p := 2) rfl
        exact kr () _ _ _ _ dX8_laysCut_43 trivial hP hD hS
      · skip
        refine lv_aload_n hx hb dX8_laysCut_12 rfl (lv_at hl 1 rfl) ?_
        refine lv_iload_n hx hb dX8_laysCut_13 rfl (lv_at hl 3 rfl) ?_
        refine lv_iload_n hx hb dX8_laysCut_14 rfl (lv_at hl 3 rfl) ?_
        refine lv_iload_n hx hb dX8_laysCut_15 rfl (lv_at hl 2 rfl) ?_
        refine zi_sub (v := nI i_ - nI k_) hx hb dX8_laysCut_16 rfl ?_
        refine zt0_ge (a := ((i_ : Nat) : Int) - ((k_ : Nat) : Int)) (tgt := 33) hx hb dX8_laysCut_17 (by decide) (pk_sub_toInt (by omega) (by omega)) (fun c17 => ?_) (fun c17 => ?_)
        · skip
          refine lv_iload_n hx hb dX8_laysCut_33 rfl (lv_at hl 3 rfl) ?_
          refine lv_iload_n hx hb dX8_laysCut_34 rfl (lv_at hl 2 rfl) ?_
          refine zi_sub (v := nI (cutF k_ (f_ 0) i_)) hx hb dX8_laysCut_35 ((pk_sub (by omega)).trans (congrArg nI (by unfold cutF; rw [if_neg (by omega)]))) ?_
          refine zi_iast hx hb hK hP hD hS 2 rfl (by omega) (by omega) dX8_laysCut_36 (fun H locs hP hD hS => ?_)
          rw [upd_nIf] at hP hD
          have hP : va_P D vwCl [((bd 0), .inr (5, [.int (nI 0), .ref (bd 1), .ref (bd 2), .int (nI um_), .ref (bd 3), .ref (bd 4), .ref (bd 5), .int (nI ln_), .int (nI at_), .int (if iw_ = true then 1 else 0), .ref (bd 6), .ref (bd 7), .ref (bd 8), .ref (bd 9), .ref (bd 10), .ref (bd 11), .ref (bd 12), .ref (bd 13), .ref (bd 14)])), ((bd 1), .inl (cy 0, 130, .inl (nIf f_))), (ra_, .inl (cy 0, 16, .inl (nIf (uN1 (fil (cutF k_ (f_ 0)) rc_ i_) i_ (cutF k_ (f_ 0) i_)))))] H := hP
          have hD : va_D zA [((bd 0), .inr (5, [.int (nI 0), .ref (bd 1), .ref (bd 2), .int (nI um_), .ref (bd 3), .ref (bd 4), .ref (bd 5), .int (nI ln_), .int (nI at_), .int (if iw_ = true then 1 else 0), .ref (bd 6), .ref (bd 7), .ref (bd 8), .ref (bd 9), .ref (bd 10), .ref (bd 11), .ref (bd 12), .ref (bd 13), .ref (bd 14)])), ((bd 1), .inl (cy 0, 130, .inl (nIf f_))), (ra_, .inl (cy 0, 16, .inl (nIf (uN1 (fil (cutF k_ (f_ 0)) rc_ i_) i_ (cutF k_ (f_ 0) i_)))))] := hD
          have hP := zP_rowN hP 2 (fil (cutF k_ (f_ 0)) rc_ (i_ + 1)) rfl (fun j_ _ => congrFun (fil_s (cutF k_ (f_ 0)) rc_ i_) j_)
          have hP : va_P D vwCl [((bd 0), .inr (5, [.int (nI 0), .ref (bd 1), .ref (bd 2), .int (nI um_), .ref (bd 3), .ref (bd 4), .ref (bd 5), .int (nI ln_), .int (nI at_), .int (if iw_ = true then 1 else 0), .ref (bd 6), .ref (bd 7), .ref (bd 8), .ref (bd 9), .ref (bd 10), .ref (bd 11), .ref (bd 12), .ref (bd 13), .ref (bd 14)])), ((bd 1), .inl (cy 0, 130, .inl (nIf f_))), (ra_, .inl (cy 0, 16, .inl (nIf (fil (cutF k_ (f_ 0)) rc_ (i_ + 1)))))] H := hP
          have hD : va_D zA [((bd 0), .inr (5, [.int (nI 0), .ref (bd 1), .ref (bd 2), .int (nI um_), .ref (bd 3), .ref (bd 4), .ref (bd 5), .int (nI ln_), .int (nI at_), .int (if iw_ = true then 1 else 0), .ref (bd 6), .ref (bd 7), .ref (bd 8), .ref (bd 9), .ref (bd 10), .ref (bd 11), .ref (bd 12), .ref (bd 13), .ref (bd 14)])), ((bd 1), .inl (cy 0, 130, .inl (nIf f_))), (ra_, .inl (cy 0, 16, .inl (nIf (fil (cutF k_ (f_ 0)) rc_ (i_ + 1)))))] := hD.set (p := 2) rfl
          refine lv_iinc (v := nI (i_ + 1)) (lv' := [(3, .int (nI (i_ + 1))), (0, .ref (bd 0)), (1, .ref ra_), (2, .int (nI k_))]) hx hb dX8_laysCut_37 hl (k := 3) rfl (nI_1 _) (by decide) rfl (fun ls hl => ?_)
          refine lv_goto (tgt := 2) hx hb dX8_laysCut_40 (by decide) ?_
          exact ih2 (i_ + 1) (by omega) (by omega) _ _ hP hD hS _ (lv_sub hl [1, 2, 3, 0] rfl)
        · skip
          refine lv_iload_n hx hb dX8_laysCut_20 rfl (lv_at hl 3 rfl) ?_
          refine lv_iload_n hx hb dX8_laysCut_21 rfl (lv_at hl 2 rfl) ?_
          refine zi_sub (v := (nI i_) - (nI k_)) hx hb dX8_laysCut_22 rfl ?_
          refine lv_aload_n hx hb dX8_laysCut_23 rfl (lv_at hl 0 rfl) ?_
          refine va_get (D := D) (ci := 5) (v := .ref (bd 1)) (C := RX8) (T := TX8) (N := 19) hx hb hts (fun w h => List.mem_cons_of_mem _ (zinX8 w h)) hown hK.1 hP 0 rfl rfl 1 (by decide) (hts _ (List.mem_cons_of_mem _ zw_74)) (fun _ h9 => h9) rfl dX8_laysCut_24 ?_
          refine lv_iconst (v := nI 0) hx hb dX8_laysCut_27 (by decide) ?_
          refine zi_iald (v := nI (f_ 0)) hx hb hK hP 1 rfl (by omega) (by omega) rfl dX8_laysCut_28 ?_
          refine zi_add (v := nI (cutF k_ (f_ 0) i_)) hx hb dX8_laysCut_29 (zz_cutA (by omega) (by omega) hN_) ?_
          refine lv_goto (tgt := 36) hx hb dX8_laysCut_30 (by decide) ?_
          refine zi_iast hx hb hK hP hD hS 2 rfl (by omega) (by omega) dX8_laysCut_36 (fun H locs hP hD hS => ?_)
          rw [upd_nIf] at hP hD
          have hP : va_P D vwCl [((bd 0), .inr (5, [.int (nI 0), .ref (bd 1), .ref (bd 2), .int (nI um_), .ref (bd 3), .ref (bd 4), .ref (bd 5), .int (nI ln_), .int (nI at_), .int (if iw_ = true then 1 else 0), .ref (bd 6), .ref (bd 7), .ref (bd 8), .ref (bd 9), .ref (bd 10), .ref (bd 11), .ref (bd 12), .ref (bd 13), .ref (bd 14)])), ((bd 1), .inl (cy 0, 130, .inl (nIf f_))), (ra_, .inl (cy 0, 16, .inl (nIf (uN1 (fil (cutF k_ (f_ 0)) rc_ i_) i_ (cutF k_ (f_ 0) i_)))))] H := hP
          have hD : va_D zA [((bd 0), .inr (5, [.int (nI 0), .ref (bd 1), .ref (bd 2), .int (nI um_), .ref (bd 3), .ref (bd 4), .ref (bd 5), .int (nI ln_), .int (nI at_), .int (if iw_ = true then 1 else 0), .ref (bd 6), .ref (bd 7), .ref (bd 8), .ref (bd 9), .ref (bd 10), .ref (bd 11), .ref (bd 12), .ref (bd 13), .ref (bd 14)])), ((bd 1), .inl (cy 0, 130, .inl (nIf f_))), (ra_, .inl (cy 0, 16, .inl (nIf (uN1 (fil (cutF k_ (f_ 0)) rc_ i_) i_ (cutF k_ (f_ 0) i_)))))] := hD
          have hP := zP_rowN hP 2 (fil (cutF k_ (f_ 0)) rc_ (i_ + 1)) rfl (fun j_ _ => congrFun (fil_s (cutF k_ (f_ 0)) rc_ i_) j_)
          have hP : va_P D vwCl [((bd 0), .inr (5, [.int (nI 0), .ref (bd 1), .ref (bd 2), .int (nI um_), .ref (bd 3), .ref (bd 4), .ref (bd 5), .int (nI ln_), .int (nI at_), .int (if iw_ = true then 1 else 0), .ref (bd 6), .ref (bd 7), .ref (bd 8), .ref (bd 9), .ref (bd 10), .ref (bd 11), .ref (bd 12), .ref (bd 13), .ref (bd 14)])), ((bd 1), .inl (cy 0, 130, .inl (nIf f_))), (ra_, .inl (cy 0, 16, .inl (nIf (fil (cutF k_ (f_ 0)) rc_ (i_ + 1)))))] H := hP
          have hD : va_D zA [((bd 0), .inr (5, [.int (nI 0), .ref (bd 1), .ref (bd 2), .int (nI um_), .ref (bd 3), .ref (bd 4), .ref (bd 5), .int (nI ln_), .int (nI at_), .int (if iw_ = true then 1 else 0), .ref (bd 6), .ref (bd 7), .ref (bd 8), .ref (bd 9), .ref (bd 10), .ref (bd 11), .ref (bd 12), .ref (bd 13), .ref (bd 14)])), ((bd 1), .inl (cy 0, 130, .inl (nIf f_))), (ra_, .inl (cy 0, 16, .inl (nIf (fil (cutF k_ (f_ 0)) rc_ (i_ + 1)))))] := hD.set (p := 2) rfl
          refine lv_iinc (v := nI (i_ + 1)) (lv' := [(3, .int (nI (i_ + 1))), (0, .ref (bd 0)), (1, .ref ra_), (2, .int (nI k_))]) hx hb dX8_laysCut_37 hl (k := 3) rfl (nI_1 _) (by decide) rfl (fun ls hl => ?_)
          refine lv_goto (tgt := 2) hx hb dX8_laysCut_40 (by decide) ?_
          exact ih2 (i_ + 1) (by omega) (by omega) _ _ hP hD hS _ (lv_sub hl [1, 2, 3, 0] rfl)
  exact L2 (f_ 0 - 0 + 1) 0 (Nat.zero_le _) (Nat.lt_succ_self _) _ _ hP hD hS _ (lv_sub hl [1, 2, 3, 0] rfl)
abbrev w_X8_laysRiffle : List Cond := Cond.code yX8_laysRiffle cX8_laysRiffle 6 none :: zAll
abbrev r_X8_laysRiffle : Room := { frames := 0, cells := 0, slots := 0, locals := 0 }
theorem zd_X8_laysRiffle : yX8_laysRiffle.cls = RX8 ∧ yX8_laysRiffle.cls ≠ "java/lang/invoke/MethodHandle" ∧ yX8_laysRiffle.cls ≠ "java/lang/invoke/VarHandle" ∧ (parseMethodDescriptor yX8_laysRiffle.desc).map (fun d => d.parameters.length) = some 2 := by decide +kernel
set_option maxHeartbeats 4000000 in
set_option maxRecDepth 100000 in
theorem c_X8_laysRiffle (l : Launch) (D : va_G) (cy : Nat → ClassId) (sz : Nat) (bd : Nat → Nat) (um_ : Nat) (ln_ : Nat) (at_ : Nat) (iw_ : Bool) (f_ : Nat → Nat) (ra_ : Nat) (rc_ : Nat → Nat) (b_ : Nat) (hN_ : f_ 0 ≤ 16) (hb_ : b_ ≤ 1) : zWv l yX8_laysRiffle w_X8_laysRiffle r_X8_laysRiffle D cy [((bd 0), .inr (5, [.int (nI 0), .ref (bd 1), .ref (bd 2), .int (nI um_), .ref (bd 3), .ref (bd 4), .ref (bd 5), .int (nI ln_), .int (nI at_), .int (if iw_ = true then 1 else 0), .ref (bd 6), .ref (bd 7), .ref (bd 8), .ref (bd 9), .ref (bd 10), .ref (bd 11), .ref (bd 12), .ref (bd 13), .ref (bd 14)])), ((bd 1), .inl (cy 0, 130, .inl (nIf f_))), (ra_, .inl (cy 0, 16, .inl (nIf rc_)))] sz [.ref (bd 0), .ref ra_, .int (nI b_)] (fun u : Unit => True) (fun u : Unit => ([((bd 0), .inr (5, [.int (nI 0), .ref (bd 1), .ref (bd 2), .int (nI um_), .ref (bd 3), .ref (bd 4), .ref (bd 5), .int (nI ln_), .int (nI at_), .int (if iw_ = true then 1 else 0), .ref (bd 6), .ref (bd 7), .ref (bd 8), .ref (bd 9), .ref (bd 10), .ref (bd 11), .ref (bd 12), .ref (bd 13), .ref (bd 14)])), ((bd 1), .inl (cy 0, 130, .inl (nIf f_))), (ra_, .inl (cy 0, 16, .inl (nIf (fil (rifF b_ (f_ 0)) rc_ (f_ 0)))))] : va_W)) 0 0 := by
  refine zOfV (cc := cX8_laysRiffle) (maxL := 6) (by decide) rfl (Nat.le_of_ble_eq_true rfl) ?_
  intro zp ze zs zm za zb zme zc hx hb hml hts hown hP hK zA hD hA Q kr ls hl hin
  have hS : va_S zA zs.heap zs.heap [] := va_S.rf
  have hown : zs.vm.findClass RX8 = some zm.cls := hown
  have hl : lv_has ls 6 [(0, .ref (bd 0)), (1, .ref ra_), (2, .int (nI b_))] := hl
  refine lv_iload_n hx hb dX8_laysRiffle_0 rfl (lv_at hl 2 rfl) ?_
  refine zb0_eq (a := b_) (tgt := 15) hx hb dX8_laysRiffle_1 (by decide) (by omega) (fun c1 => ?_) (fun c1 => ?_)
  · skip
    refine lv_aload_n hx hb dX8_laysRiffle_15 rfl (lv_at hl 0 rfl) ?_
    refine va_get (D := D) (ci := 5) (v := .ref (bd 1)) (C := RX8) (T := TX8) (N := 19) hx hb hts (fun w h => List.mem_cons_of_mem _ (zinX8 w h)) hown hK.1 hP 0 rfl rfl 1 (by decide) (hts _ (List.mem_cons_of_mem _ zw_74)) (fun _ h9 => h9) rfl dX8_laysRiffle_16 ?_
    refine lv_iconst (v := nI 0) hx hb dX8_laysRiffle_19 (by decide) ?_
    refine zi_iald (v := nI (f_ 0)) hx hb hK hP 1 rfl (by omega) (by omega) rfl dX8_laysRiffle_20 ?_
    refine lv_iconst (v := nI 1) hx hb dX8_laysRiffle_21 (by decide) ?_
    refine zi_add (v := nI ((f_ 0) + 1)) hx hb dX8_laysRiffle_22 (nI_add _ _) ?_
    refine lv_iconst (v := nI 2) hx hb dX8_laysRiffle_23 (by decide) ?_
    refine zi_div (v := nI (((f_ 0) + 1) / 2)) hx hb dX8_laysRiffle_24 (nI_ne0 (by omega) (by omega)) (pk_div (by omega) (by omega) (by omega)) ?_
    refine lv_istore_n (lv' := [(3, .int (nI (((f_ 0) + 1) / 2))), (0, .ref (bd 0)), (1, .ref ra_), (2, .int (nI b_))]) hx hb dX8_laysRiffle_25 rfl hl (by decide) rfl (fun ls hl => ?_)
    refine lv_iload_n hx hb dX8_laysRiffle_26 rfl (lv_at hl 3 rfl) ?_
    refine zb0_eq (a := b_) (tgt := 34) hx hb dX8_laysRiffle_27 (by decide) (by omega) (fun c27 => ?_) (fun c27 => ?_)
    · skip
      refine lv_iconst (v := nI 0) hx hb dX8_laysRiffle_34 (by decide) ?_
      refine lv_istore (lv' := [(4, .int (nI 0)), (3, .int (nI (((f_ 0) + 1) / 2))), (0, .ref (bd 0)), (1, .ref ra_), (2, .int (nI b_))]) hx hb dX8_laysRiffle_35 hl (by decide) rfl (fun ls hl => ?_)
      have hP := zP_rowN hP 2 (fil (rifF b_ (f_ 0)) rc_ 0) rfl (fun j_ _ => congrFun (fil_0 (rifF b_ (f_ 0)) rc_) j_)
      have hP : va_P D vwCl [((bd 0), .inr (5, [.int (nI 0), .ref (bd 1), .ref (bd 2), .int (nI um_), .ref (bd 3), .ref (bd 4), .ref (bd 5), .int (nI ln_), .int (nI at_), .int (if iw_ = true then 1 else 0), .ref (bd 6), .ref (bd 7), .ref (bd 8), .ref (bd 9), .ref (bd 10), .ref (bd 11), .ref (bd 12), .ref (bd 13), .ref (bd 14)])), ((bd 1), .inl (cy 0, 130, .inl (nIf f_))), (ra_, .inl (cy 0, 16, .inl (nIf (fil (rifF b_ (f_ 0)) rc_ 0))))] zs.heap := hP
      have hD : va_D zA [((bd 0), .inr (5, [.int (nI 0), .ref (bd 1), .ref (bd 2), .int (nI um_), .ref (bd 3), .ref (bd 4), .ref (bd 5), .int (nI ln_), .int (nI at_), .int (if iw_ = true then 1 else 0), .ref (bd 6), .ref (bd 7), .ref (bd 8), .ref (bd 9), .ref (bd 10), .ref (bd 11), .ref (bd 12), .ref (bd 13), .ref (bd 14)])), ((bd 1), .inl (cy 0, 130, .inl (nIf f_))), (ra_, .inl (cy 0, 16, .inl (nIf (fil (rifF b_ (f_ 0)) rc_ 0))))] := hD.set (p := 2) rfl
      refine lv_iconst (v := nI 0) hx hb dX8_laysRiffle_37 (by decide) ?_
      refine lv_istore (lv' := [(5, .int (nI 0)), (4, .int (nI 0)), (3, .int (nI (((f_ 0) + 1) / 2))), (0, .ref (bd 0)), (1, .ref ra_), (2, .int (nI b_))]) hx hb dX8_laysRiffle_38 hl (by decide) rfl (fun ls hl => ?_)
      have L40 : ∀ (kf_ : Nat) (i_ : Nat) (hi : i_ ≤ f_ 0), f_ 0 - i_ < kf_ → ∀ (H : Heap) (locs : List Loc), va_P D vwCl [((bd 0), .inr (5, [.int (nI 0), .ref (bd 1), .ref (bd 2), .int (nI um_), .ref (bd 3), .ref (bd 4), .ref (bd 5), .int (nI ln_), .int (nI at_), .int (if iw_ = true then 1 else 0), .ref (bd 6), .ref (bd 7), .ref (bd 8), .ref (bd 9), .ref (bd 10), .ref (bd 11), .ref (bd 12), .ref (bd 13), .ref (bd 14)])), ((bd 1), .inl (cy 0, 130, .inl (nIf f_))), (ra_, .inl (cy 0, 16, .inl (nIf (fil (rifF b_ (f_ 0)) rc_ i_))))] H → va_D zA [((bd 0), .inr (5, [.int (nI 0), .ref (bd 1), .ref (bd 2), .int (nI um_), .ref (bd 3), .ref (bd 4), .ref (bd 5), .int (nI ln_), .int (nI at_), .int (if iw_ = true then 1 else 0), .ref (bd 6), .ref (bd 7), .ref (bd 8), .ref (bd 9), .ref (bd 10), .ref (bd 11), .ref (bd 12), .ref (bd 13), .ref (bd 14)])), ((bd 1), .inl (cy 0, 130, .inl (nIf f_))), (ra_, .inl (cy 0, 16, .inl (nIf (fil (rifF b_ (f_ 0)) rc_ i_))))] → va_S zA zs.heap H locs → ∀ ls : Array Slot, lv_has ls 6 [(0, .ref (bd 0)), (1, .ref ra_), (2, .int (nI b_)), (3, .int (nI (((f_ 0) + 1) / 2))), (4, .int (nI 0)), (5, .int (nI i_))] → W zp l ze r_X8_laysRiffle zs zm za zb zme zc H locs 0 0 Q (F0 zm 40 ls []) := by
        intro kf_
        induction kf_ with
        | zero => intro i_ hi hk_; exact absurd hk_ (Nat.not_lt_zero _)
        | succ kf_ ih40 =>
          intro i_ hi hk_ H locs hP hD hS ls hl
          refine lv_iload hx hb dX8_laysRiffle_40 (lv_at hl 5 rfl) ?_
          refine lv_aload_n hx hb dX8_laysRiffle_42 rfl (lv_at hl 0 rfl) ?_
          refine va_get (D := D) (ci := 5) (v := .ref (bd 1)) (C := RX8) (T := TX8) (N := 19) hx hb hts (fun w h => List.mem_cons_of_mem _ (zinX8 w h)) hown hK.1 hP 0 rfl rfl 1 (by decide) (hts _ (List.mem_cons_of_mem _ zw_74)) (fun _ h9 => h9) rfl dX8_laysRiffle_43 ?_
          refine lv_iconst (v := nI 0) hx hb dX8_laysRiffle_46 (by decide) ?_
          refine zi_iald (v := nI (f_ 0)) hx hb hK hP 1 rfl (by omega) (by omega) rfl dX8_laysRiffle_47 ?_
          refine zb_ge (a := i_) (b := f_ 0) (tgt := 88) hx hb dX8_laysRiffle_48 (by decide) (by omega) (by omega) (fun c48 => ?_) (fun c48 => ?_)
          · skip
            have hP := zP_rowN hP 2 (fil (rifF b_ (f_ 0)) rc_ (f_ 0)) rfl (fun j_ _ => by rw [show i_ = f_ 0 by omega])
            have hP : va_P D vwCl [((bd 0), .inr (5, [.int (nI 0), .ref (bd 1), .ref (bd 2), .int (nI um_), .ref (bd 3), .ref (bd 4), .ref (bd 5), .int (nI ln_), .int (nI at_), .int (if iw_ = true then 1 else 0), .ref (bd 6), .ref (bd 7), .ref (bd 8), .ref (bd 9), .ref (bd 10), .ref (bd 11), .ref (bd 12), .ref (bd 13), .ref (bd 14)])), ((bd 1), .inl (cy 0, 130, .inl (nIf f_))), (ra_, .inl (cy 0, 16, .inl (nIf (fil (rifF b_ (f_ 0)) rc_ (f_ 0)))))] H := hP
            have hD : va_D zA [((bd 0), .inr (5, [.int (nI 0), .ref (bd 1), .ref (bd 2), .int (nI um_), .ref (bd 3), .ref (bd 4), .ref (bd 5), .int (nI ln_), .int (nI at_), .int (if iw_ = true then 1 else 0), .ref (bd 6), .ref (bd 7), .ref (bd 8), .ref (bd 9), .ref (bd 10), .ref (bd 11), .ref (bd 12), .ref (bd 13), .ref (bd 14)])), ((bd 1), .inl (cy 0, 130, .inl (nIf f_))), (ra_, .inl (cy 0, 16, .inl (nIf (fil (rifF b_ (f_ 0)) rc_ (f_ 0)))))] := hD.set (p := 2) rfl
            exact kr () _ _ _ _ dX8_laysRiffle_88 trivial hP hD hS
          · skip
            refine lv_aload_n hx hb dX8_laysRiffle_51 rfl (lv_at hl 1 rfl) ?_
            refine lv_iload hx hb dX8_laysRiffle_52 (lv_at hl 5 rfl) ?_
            refine lv_iload hx hb dX8_laysRiffle_54 (lv_at hl 5 rfl) ?_
            refine lv_iload_n hx hb dX8_laysRiffle_56 rfl (lv_at hl 3 rfl) ?_
            refine zb_ge (a := i_) (b := ((f_ 0) + 1) / 2) (tgt := 70) hx hb dX8_laysRiffle_57 (by decide) (by omega) (by omega) (fun c57 => ?_) (fun c57 => ?_)
            · skip
              refine lv_iconst (v := nI 2) hx hb dX8_laysRiffle_70 (by decide) ?_
              refine lv_iload hx hb dX8_laysRiffle_71 (lv_at hl 5 rfl) ?_
              refine lv_iload_n hx hb dX8_laysRiffle_73 rfl (lv_at hl 3 rfl) ?_
              refine zi_sub (v := nI (i_ - (((f_ 0) + 1) / 2))) hx hb dX8_laysRiffle_74 (pk_sub (by omega)) ?_
              refine zi_mul (v := nI (2 * (i_ - (((f_ 0) + 1) / 2)))) hx hb dX8_laysRiffle_75 (pk_mul _ _) ?_
              refine lv_iconst (v := nI 1) hx hb dX8_laysRiffle_76 (by decide) ?_
              refine zi_add (v := nI ((2 * (i_ - (((f_ 0) + 1) / 2))) + 1)) hx hb dX8_laysRiffle_77 (nI_add _ _) ?_
              refine lv_iload hx hb dX8_laysRiffle_78 (lv_at hl 4 rfl) ?_
              refine zi_sub (v := nI (rifF b_ (f_ 0) i_)) hx hb dX8_laysRiffle_80 ((pk_sub (by omega)).trans (congrArg nI (Eq.trans (show 2 * (i_ - (((f_ 0) + 1) / 2)) + 1 - 0 = 2 * (i_ - (((f_ 0) + 1) / 2)) + 1 - b_ by omega) (rif_hi (h := ((f_ 0) + 1) / 2) (by unfold rifH; split <;> omega) (by omega))))) ?_
              refine zi_iast hx hb hK hP hD hS 2 rfl (by omega) (by omega) dX8_laysRiffle_81 (fun H locs hP hD hS => ?_)
              rw [upd_nIf] at hP hD
              have hP : va_P D vwCl [((bd 0), .inr (5, [.int (nI 0), .ref (bd 1), .ref (bd 2), .int (nI um_), .ref (bd 3), .ref (bd 4), .ref (bd 5), .int (nI ln_), .int (nI at_), .int (if iw_ = true then 1 else 0), .ref (bd 6), .ref (bd 7), .ref (bd 8), .ref (bd 9), .ref (bd 10), .ref (bd 11), .ref (bd 12), .ref (bd 13), .ref (bd 14)])), ((bd 1), .inl (cy 0, 130, .inl (nIf f_))), (ra_, .inl (cy 0, 16, .inl (nIf (uN1 (fil (rifF b_ (f_ 0)) rc_ i_) i_ (rifF b_ (f_ 0) i_)))))] H := hP
              have hD : va_D zA [((bd 0), .inr (5, [.int (nI 0), .ref (bd 1), .ref (bd 2), .int (nI um_), .ref (bd 3), .ref (bd 4), .ref (bd 5), .int (nI ln_), .int (nI at_), .int (if iw_ = true then 1 else 0), .ref (bd 6), .ref (bd 7), .ref (bd 8), .ref (bd 9), .ref (bd 10), .ref (bd 11), .ref (bd 12), .ref (bd 13), .ref (bd 14)])), ((bd 1), .inl (cy 0, 130, .inl (nIf f_))), (ra_, .inl (cy 0, 16, .inl (nIf (uN1 (fil (rifF b_ (f_ 0)) rc_ i_) i_ (rifF b_ (f_ 0) i_)))))] := hD
              have hP := zP_rowN hP 2 (fil (rifF b_ (f_ 0)) rc_ (i_ + 1)) rfl (fun j_ _ => congrFun (fil_s (rifF b_ (f_ 0)) rc_ i_) j_)
              have hP : va_P D vwCl [((bd 0), .inr (5, [.int (nI 0), .ref (bd 1), .ref (bd 2), .int (nI um_), .ref (bd 3), .ref (bd 4), .ref (bd 5), .int (nI ln_), .int (nI at_), .int (if iw_ = true then 1 else 0), .ref (bd 6), .ref (bd 7), .ref (bd 8), .ref (bd 9), .ref (bd 10), .ref (bd 11), .ref (bd 12), .ref (bd 13), .ref (bd 14)])), ((bd 1), .inl (cy 0, 130, .inl (nIf f_))), (ra_, .inl (cy 0, 16, .inl (nIf (fil (rifF b_ (f_ 0)) rc_ (i_ + 1)))))] H := hP
              have hD : va_D zA [((bd 0), .inr (5, [.int (nI 0), .ref (bd 1), .ref (bd 2), .int (nI um_), .ref (bd 3), .ref (bd 4), .ref (bd 5), .int (nI ln_), .int (nI at_), .int (if iw_ = true then 1 else 0), .ref (bd 6), .ref (bd 7), .ref (bd 8), .ref (bd 9), .ref (bd 10), .ref (bd 11), .ref (bd 12), .ref (bd 13), .ref (bd 14)])), ((bd 1), .inl (cy 0, 130, .inl (nIf f_))), (ra_, .inl (cy 0, 16, .inl (nIf (fil (rifF b_ (f_ 0)) rc_ (i_ + 1)))))] := hD.set (p := 2) rfl
              refine lv_iinc (v := nI (i_ + 1)) (lv' := [(5, .int (nI (i_ + 1))), (0, .ref (bd 0)), (1, .ref ra_), (2, .int (nI b_)), (3, .int (nI (((f_ 0) + 1) / 2))), (4, .int (nI 0))]) hx hb dX8_laysRiffle_82 hl (k := 5) rfl (nI_1 _) (by decide) rfl (fun ls hl => ?_)
              refine lv_goto (tgt := 40) hx hb dX8_laysRiffle_85 (by decide) ?_
              exact ih40 (i_ + 1) (by omega) (by omega) _ _ hP hD hS _ (lv_sub hl [1, 2, 3, 4, 5, 0] rfl)
            · skip
              refine lv_iconst (v := nI 2) hx hb dX8_laysRiffle_60 (by decide) ?_
              refine lv_iload hx hb dX8_laysRiffle_61 (lv_at hl 5 rfl) ?_
              refine zi_mul (v := nI (2 * i_)) hx hb dX8_laysRiffle_63 (pk_mul _ _) ?_
              refine lv_iload hx hb dX8_laysRiffle_64 (lv_at hl 4 rfl) ?_
              refine zi_add (v := nI (rifF b_ (f_ 0) i_)) hx hb dX8_laysRiffle_66 ((nI_add _ _).trans (congrArg nI (Eq.trans (show 2 * i_ + 0 = 2 * i_ + b_ by omega) (rif_lo (h := ((f_ 0) + 1) / 2) (by unfold rifH; split <;> omega) (by omega))))) ?_
              refine lv_goto (tgt := 81) hx hb dX8_laysRiffle_67 (by decide) ?_
              refine zi_iast hx hb hK hP hD hS 2 rfl (by omega) (by omega) dX8_laysRiffle_81 (fun H locs hP hD hS => ?_)
              rw [upd_nIf] at hP hD
              have hP : va_P D vwCl [((bd 0), .inr (5, [.int (nI 0), .ref (bd 1), .ref (bd 2), .int (nI um_), .ref (bd 3), .ref (bd 4), .ref (bd 5), .int (nI ln_), .int (nI at_), .int (if iw_ = true then 1 else 0), .ref (bd 6), .ref (bd 7), .ref (bd 8), .ref (bd 9), .ref (bd 10), .ref (bd 11), .ref (bd 12), .ref (bd 13), .ref (bd 14)])), ((bd 1), .inl (cy 0, 130, .inl (nIf f_))), (ra_, .inl (cy 0, 16, .inl (nIf (uN1 (fil (rifF b_ (f_ 0)) rc_ i_) i_ (rifF b_ (f_ 0) i_)))))] H := hP
              have hD : va_D zA [((bd 0), .inr (5, [.int (nI 0), .ref (bd 1), .ref (bd 2), .int (nI um_), .ref (bd 3), .ref (bd 4), .ref (bd 5), .int (nI ln_), .int (nI at_), .int (if iw_ = true then 1 else 0), .ref (bd 6), .ref (bd 7), .ref (bd 8), .ref (bd 9), .ref (bd 10), .ref (bd 11), .ref (bd 12), .ref (bd 13), .ref (bd 14)])), ((bd 1), .inl (cy 0, 130, .inl (nIf f_))), (ra_, .inl (cy 0, 16, .inl (nIf (uN1 (fil (rifF b_ (f_ 0)) rc_ i_) i_ (rifF b_ (f_ 0) i_)))))] := hD
              have hP := zP_rowN hP 2 (fil (rifF b_ (f_ 0)) rc_ (i_ + 1)) rfl (fun j_ _ => congrFun (fil_s (rifF b_ (f_ 0)) rc_ i_) j_)
              have hP : va_P D vwCl [((bd 0), .inr (5, [.int (nI 0), .ref (bd 1), .ref (bd 2), .int (nI um_), .ref (bd 3), .ref (bd 4), .ref (bd 5), .int (nI ln_), .int (nI at_), .int (if iw_ = true then 1 else 0), .ref (bd 6), .ref (bd 7), .ref (bd 8), .ref (bd 9), .ref (bd 10), .ref (bd 11), .ref (bd 12), .ref (bd 13), .ref (bd 14)])), ((bd 1), .inl (cy 0, 130, .inl (nIf f_))), (ra_, .inl (cy 0, 16, .inl (nIf (fil (rifF b_ (f_ 0)) rc_ (i_ + 1)))))] H := hP
              have hD : va_D zA [((bd 0), .inr (5, [.int (nI 0), .ref (bd 1), .ref (bd 2), .int (nI um_), .ref (bd 3), .ref (bd 4), .ref (bd 5), .int (nI ln_), .int (nI at_), .int (if iw_ = true then 1 else 0), .ref (bd 6), .ref (bd 7), .ref (bd 8), .ref (bd 9), .ref (bd 10), .ref (bd 11), .ref (bd 12), .ref (bd 13), .ref (bd 14)])), ((bd 1), .inl (cy 0, 130, .inl (nIf f_))), (ra_, .inl (cy 0, 16, .inl (nIf (fil (rifF b_ (f_ 0)) rc_ (i_ + 1)))))] := hD.set (p := 2) rfl
              refine lv_iinc (v := nI (i_ + 1)) (lv' := [(5, .int (nI (i_ + 1))), (0, .ref (bd 0)), (1, .ref ra_), (2, .int (nI b_)), (3, .int (nI (((f_ 0) + 1) / 2))), (4, .int (nI 0))]) hx hb dX8_laysRiffle_82 hl (k := 5) rfl (nI_1 _) (by decide) rfl (fun ls hl => ?_)
              refine lv_goto (tgt := 40) hx hb dX8_laysRiffle_85 (by decide) ?_
              exact ih40 (i_ + 1) (by omega) (by omega) _ _ hP hD hS _ (lv_sub hl [1, 2, 3, 4, 5, 0] rfl)
      exact L40 (f_ 0 - 0 + 1) 0 (Nat.zero_le _) (Nat.lt_succ_self _) _ _ hP hD hS _ (lv_sub hl [3, 4, 5, 2, 1, 0] rfl)
    · skip
      refine lv_iconst (v := nI 1) hx hb dX8_laysRiffle_30 (by decide) ?_
      refine lv_goto (tgt := 35) hx hb dX8_laysRiffle_31 (by decide) ?_
      refine lv_istore (lv' := [(4, .int (nI 1)), (3, .int (nI (((f_ 0) + 1) / 2))), (0, .ref (bd 0)), (1, .ref ra_), (2, .int (nI b_))]) hx hb dX8_laysRiffle_35 hl (by decide) rfl (fun ls hl => ?_)
      have hP := zP_rowN hP 2 (fil (rifF b_ (f_ 0)) rc_ 0) rfl (fun j_ _ => congrFun (fil_0 (rifF b_ (f_ 0)) rc_) j_)
      have hP : va_P D vwCl [((bd 0), .inr (5, [.int (nI 0), .ref (bd 1), .ref (bd 2), .int (nI um_), .ref (bd 3), .ref (bd 4), .ref (bd 5), .int (nI ln_), .int (nI at_), .int (if iw_ = true then 1 else 0), .ref (bd 6), .ref (bd 7), .ref (bd 8), .ref (bd 9), .ref (bd 10), .ref (bd 11), .ref (bd 12), .ref (bd 13), .ref (bd 14)])), ((bd 1), .inl (cy 0, 130, .inl (nIf f_))), (ra_, .inl (cy 0, 16, .inl (nIf (fil (rifF b_ (f_ 0)) rc_ 0))))] zs.heap := hP
      have hD : va_D zA [((bd 0), .inr (5, [.int (nI 0), .ref (bd 1), .ref (bd 2), .int (nI um_), .ref (bd 3), .ref (bd 4), .ref (bd 5), .int (nI ln_), .int (nI at_), .int (if iw_ = true then 1 else 0), .ref (bd 6), .ref (bd 7), .ref (bd 8), .ref (bd 9), .ref (bd 10), .ref (bd 11), .ref (bd 12), .ref (bd 13), .ref (bd 14)])), ((bd 1), .inl (cy 0, 130, .inl (nIf f_))), (ra_, .inl (cy 0, 16, .inl (nIf (fil (rifF b_ (f_ 0)) rc_ 0))))] := hD.set (p := 2) rfl
      refine lv_iconst (v := nI 0) hx hb dX8_laysRiffle_37 (by decide) ?_
      refine lv_istore (lv' := [(5, .int (nI 0)), (4, .int (nI 1)), (3, .int (nI (((f_ 0) + 1) / 2))), (0, .ref (bd 0)), (1, .ref ra_), (2, .int (nI b_))]) hx hb dX8_laysRiffle_38 hl (by decide) rfl (fun ls hl => ?_)
      have L40 : ∀ (kf_ : Nat) (i_ : Nat) (hi : i_ ≤ f_ 0), f_ 0 - i_ < kf_ → ∀ (H : Heap) (locs : List Loc), va_P D vwCl [((bd 0), .inr (5, [.int (nI 0), .ref (bd 1), .ref (bd 2), .int (nI um_), .ref (bd 3), .ref (bd 4), .ref (bd 5), .int (nI ln_), .int (nI at_), .int (if iw_ = true then 1 else 0), .ref (bd 6), .ref (bd 7), .ref (bd 8), .ref (bd 9), .ref (bd 10), .ref (bd 11), .ref (bd 12), .ref (bd 13), .ref (bd 14)])), ((bd 1), .inl (cy 0, 130, .inl (nIf f_))), (ra_, .inl (cy 0, 16, .inl (nIf (fil (rifF b_ (f_ 0)) rc_ i_))))] H → va_D zA [((bd 0), .inr (5, [.int (nI 0), .ref (bd 1), .ref (bd 2), .int (nI um_), .ref (bd 3), .ref (bd 4), .ref (bd 5), .int (nI ln_), .int (nI at_), .int (if iw_ = true then 1 else 0), .ref (bd 6), .ref (bd 7), .ref (bd 8), .ref (bd 9), .ref (bd 10), .ref (bd 11), .ref (bd 12), .ref (bd 13), .ref (bd 14)])), ((bd 1), .inl (cy 0, 130, .inl (nIf f_))), (ra_, .inl (cy 0, 16, .inl (nIf (fil (rifF b_ (f_ 0)) rc_ i_))))] → va_S zA zs.heap H locs → ∀ ls : Array Slot, lv_has ls 6 [(0, .ref (bd 0)), (1, .ref ra_), (2, .int (nI b_)), (3, .int (nI (((f_ 0) + 1) / 2))), (4, .int (nI 1)), (5, .int (nI i_))] → W zp l ze r_X8_laysRiffle zs zm za zb zme zc H locs 0 0 Q (F0 zm 40 ls []) := by
        intro kf_
        induction kf_ with
        | zero => intro i_ hi hk_; exact absurd hk_ (Nat.not_lt_zero _)
        | succ kf_ ih40 =>
          intro i_ hi hk_ H locs hP hD hS ls hl
          refine lv_iload hx hb dX8_laysRiffle_40 (lv_at hl 5 rfl) ?_
          refine lv_aload_n hx hb dX8_laysRiffle_42 rfl (lv_at hl 0 rfl) ?_
          refine va_get (D := D) (ci := 5) (v := .ref (bd 1)) (C := RX8) (T := TX8) (N := 19) hx hb hts (fun w h => List.mem_cons_of_mem _ (zinX8 w h)) hown hK.1 hP 0 rfl rfl 1 (by decide) (hts _ (List.mem_cons_of_mem _ zw_74)) (fun _ h9 => h9) rfl dX8_laysRiffle_43 ?_
          refine lv_iconst (v := nI 0) hx hb dX8_laysRiffle_46 (by decide) ?_
          refine zi_iald (v := nI (f_ 0)) hx hb hK hP 1 rfl (by omega) (by omega) rfl dX8_laysRiffle_47 ?_
          refine zb_ge (a := i_) (b := f_ 0) (tgt := 88) hx hb dX8_laysRiffle_48 (by decide) (by omega) (by omega) (fun c48 => ?_) (fun c48 => ?_)
          · skip
            have hP := zP_rowN hP 2 (fil (rifF b_ (f_ 0)) rc_ (f_ 0)) rfl (fun j_ _ => by rw [show i_ = f_ 0 by omega])
            have hP : va_P D vwCl [((bd 0), .inr (5, [.int (nI 0), .ref (bd 1), .ref (bd 2), .int (nI um_), .ref (bd 3), .ref (bd 4), .ref (bd 5), .int (nI ln_), .int (nI at_), .int (if iw_ = true then 1 else 0), .ref (bd 6), .ref (bd 7), .ref (bd 8), .ref (bd 9), .ref (bd 10), .ref (bd 11), .ref (bd 12), .ref (bd 13), .ref (bd 14)])), ((bd 1), .inl (cy 0, 130, .inl (nIf f_))), (ra_, .inl (cy 0, 16, .inl (nIf (fil (rifF b_ (f_ 0)) rc_ (f_ 0)))))] H := hP
            have hD : va_D zA [((bd 0), .inr (5, [.int (nI 0), .ref (bd 1), .ref (bd 2), .int (nI um_), .ref (bd 3), .ref (bd 4), .ref (bd 5), .int (nI ln_), .int (nI at_), .int (if iw_ = true then 1 else 0), .ref (bd 6), .ref (bd 7), .ref (bd 8), .ref (bd 9), .ref (bd 10), .ref (bd 11), .ref (bd 12), .ref (bd 13), .ref (bd 14)])), ((bd 1), .inl (cy 0, 130, .inl (nIf f_))), (ra_, .inl (cy 0, 16, .inl (nIf (fil (rifF b_ (f_ 0)) rc_ (f_ 0)))))] := hD.set (p := 2) rfl
            exact kr () _ _ _ _ dX8_laysRiffle_88 trivial hP hD hS
          · skip
            refine lv_aload_n hx hb dX8_laysRiffle_51 rfl (lv_at hl 1 rfl) ?_
            refine lv_iload hx hb dX8_laysRiffle_52 (lv_at hl 5 rfl) ?_
            refine lv_iload hx hb dX8_laysRiffle_54 (lv_at hl 5 rfl) ?_
            refine lv_iload_n hx hb dX8_laysRiffle_56 rfl (lv_at hl 3 rfl) ?_
            refine zb_ge (a := i_) (b := ((f_ 0) + 1) / 2) (tgt := 70) hx hb dX8_laysRiffle_57 (by decide) (by omega) (by omega) (fun c57 => ?_) (fun c57 => ?_)
            · skip
              refine lv_iconst (v := nI 2) hx hb dX8_laysRiffle_70 (by decide) ?_
              refine lv_iload hx hb dX8_laysRiffle_71 (lv_at hl 5 rfl) ?_
              refine lv_iload_n hx hb dX8_laysRiffle_73 rfl (lv_at hl 3 rfl) ?_
              refine zi_sub (v := nI (i_ - (((f_ 0) + 1) / 2))) hx hb dX8_laysRiffle_74 (pk_sub (by omega)) ?_
              refine zi_mul (v := nI (2 * (i_ - (((f_ 0) + 1) / 2)))) hx hb dX8_laysRiffle_75 (pk_mul _ _) ?_
              refine lv_iconst (v := nI 1) hx hb dX8_laysRiffle_76 (by decide) ?_
              refine zi_add (v := nI ((2 * (i_ - (((f_ 0) + 1) / 2))) + 1)) hx hb dX8_laysRiffle_77 (nI_add _ _) ?_
              refine lv_iload hx hb dX8_laysRiffle_78 (lv_at hl 4 rfl) ?_
              refine zi_sub (v := nI (rifF b_ (f_ 0) i_)) hx hb dX8_laysRiffle_80 ((pk_sub (by omega)).trans (congrArg nI (Eq.trans (show 2 * (i_ - (((f_ 0) + 1) / 2)) + 1 - 1 = 2 * (i_ - (((f_ 0) + 1) / 2)) + 1 - b_ by omega) (rif_hi (h := ((f_ 0) + 1) / 2) (by unfold rifH; split <;> omega) (by omega))))) ?_
              refine zi_iast hx hb hK hP hD hS 2 rfl (by omega) (by omega) dX8_laysRiffle_81 (fun H locs hP hD hS => ?_)
              rw [upd_nIf] at hP hD
              have hP : va_P D vwCl [((bd 0), .inr (5, [.int (nI 0), .ref (bd 1), .ref (bd 2), .int (nI um_), .ref (bd 3), .ref (bd 4), .ref (bd 5), .int (nI ln_), .int (nI at_), .int (if iw_ = true then 1 else 0), .ref (bd 6), .ref (bd 7), .ref (bd 8), .ref (bd 9), .ref (bd 10), .ref (bd 11), .ref (bd 12), .ref (bd 13), .ref (bd 14)])), ((bd 1), .inl (cy 0, 130, .inl (nIf f_))), (ra_, .inl (cy 0, 16, .inl (nIf (uN1 (fil (rifF b_ (f_ 0)) rc_ i_) i_ (rifF b_ (f_ 0) i_)))))] H := hP
              have hD : va_D zA [((bd 0), .inr (5, [.int (nI 0), .ref (bd 1), .ref (bd 2), .int (nI um_), .ref (bd 3), .ref (bd 4), .ref (bd 5), .int (nI ln_), .int (nI at_), .int (if iw_ = true then 1 else 0), .ref (bd 6), .ref (bd 7), .ref (bd 8), .ref (bd 9), .ref (bd 10), .ref (bd 11), .ref (bd 12), .ref (bd 13), .ref (bd 14)])), ((bd 1), .inl (cy 0, 130, .inl (nIf f_))), (ra_, .inl (cy 0, 16, .inl (nIf (uN1 (fil (rifF b_ (f_ 0)) rc_ i_) i_ (rifF b_ (f_ 0) i_)))))] := hD
              have hP := zP_rowN hP 2 (fil (rifF b_ (f_ 0)) rc_ (i_ + 1)) rfl (fun j_ _ => congrFun (fil_s (rifF b_ (f_ 0)) rc_ i_) j_)
              have hP : va_P D vwCl [((bd 0), .inr (5, [.int (nI 0), .ref (bd 1), .ref (bd 2), .int (nI um_), .ref (bd 3), .ref (bd 4), .ref (bd 5), .int (nI ln_), .int (nI at_), .int (if iw_ = true then 1 else 0), .ref (bd 6), .ref (bd 7), .ref (bd 8), .ref (bd 9), .ref (bd 10), .ref (bd 11), .ref (bd 12), .ref (bd 13), .ref (bd 14)])), ((bd 1), .inl (cy 0, 130, .inl (nIf f_))), (ra_, .inl (cy 0, 16, .inl (nIf (fil (rifF b_ (f_ 0)) rc_ (i_ + 1)))))] H := hP
              have hD : va_D zA [((bd 0), .inr (5, [.int (nI 0), .ref (bd 1), .ref (bd 2), .int (nI um_), .ref (bd 3), .ref (bd 4), .ref (bd 5), .int (nI ln_), .int (nI at_), .int (if iw_ = true then 1 else 0), .ref (bd 6), .ref (bd 7), .ref (bd 8), .ref (bd 9), .ref (bd 10), .ref (bd 11), .ref (bd 12), .ref (bd 13), .ref (bd 14)])), ((bd 1), .inl (cy 0, 130, .inl (nIf f_))), (ra_, .inl (cy 0, 16, .inl (nIf (fil (rifF b_ (f_ 0)) rc_ (i_ + 1)))))] := hD.set (p := 2) rfl
              refine lv_iinc (v := nI (i_ + 1)) (lv' := [(5, .int (nI (i_ + 1))), (0, .ref (bd 0)), (1, .ref ra_), (2, .int (nI b_)), (3, .int (nI (((f_ 0) + 1) / 2))), (4, .int (nI 1))]) hx hb dX8_laysRiffle_82 hl (k := 5) rfl (nI_1 _) (by decide) rfl (fun ls hl => ?_)
              refine lv_goto (tgt := 40) hx hb dX8_laysRiffle_85 (by decide) ?_
              exact ih40 (i_ + 1) (by omega) (by omega) _ _ hP hD hS _ (lv_sub hl [1, 2, 3, 4, 5, 0] rfl)
            · skip
              refine lv_iconst (v := nI 2) hx hb dX8_laysRiffle_60 (by decide) ?_
              refine lv_iload hx hb dX8_laysRiffle_61 (lv_at hl 5 rfl) ?_
              refine zi_mul (v := nI (2 * i_)) hx hb dX8_laysRiffle_63 (pk_mul _ _) ?_
              refine lv_iload hx hb dX8_laysRiffle_64 (lv_at hl 4 rfl) ?_
              refine zi_add (v := nI (rifF b_ (f_ 0) i_)) hx hb dX8_laysRiffle_66 ((nI_add _ _).trans (congrArg nI (Eq.trans (show 2 * i_ + 1 = 2 * i_ + b_ by omega) (rif_lo (h := ((f_ 0) + 1) / 2) (by unfold rifH; split <;> omega) (by omega))))) ?_
              refine lv_goto (tgt := 81) hx hb dX8_laysRiffle_67 (by decide) ?_
              refine zi_iast hx hb hK hP hD hS 2 rfl (by omega) (by omega) dX8_laysRiffle_81 (fun H locs hP hD hS => ?_)
              rw [upd_nIf] at hP hD
              have hP : va_P D vwCl [((bd 0), .inr (5, [.int (nI 0), .ref (bd 1), .ref (bd 2), .int (nI um_), .ref (bd 3), .ref (bd 4), .ref (bd 5), .int (nI ln_), .int (nI at_), .int (if iw_ = true then 1 else 0), .ref (bd 6), .ref (bd 7), .ref (bd 8), .ref (bd 9), .ref (bd 10), .ref (bd 11), .ref (bd 12), .ref (bd 13), .ref (bd 14)])), ((bd 1), .inl (cy 0, 130, .inl (nIf f_))), (ra_, .inl (cy 0, 16, .inl (nIf (uN1 (fil (rifF b_ (f_ 0)) rc_ i_) i_ (rifF b_ (f_ 0) i_)))))] H := hP
              have hD : va_D zA [((bd 0), .inr (5, [.int (nI 0), .ref (bd 1), .ref (bd 2), .int (nI um_), .ref (bd 3), .ref (bd 4), .ref (bd 5), .int (nI ln_), .int (nI at_), .int (if iw_ = true then 1 else 0), .ref (bd 6), .ref (bd 7), .ref (bd 8), .ref (bd 9), .ref (bd 10), .ref (bd 11), .ref (bd 12), .ref (bd 13), .ref (bd 14)])), ((bd 1), .inl (cy 0, 130, .inl (nIf f_))), (ra_, .inl (cy 0, 16, .inl (nIf (uN1 (fil (rifF b_ (f_ 0)) rc_ i_) i_ (rifF b_ (f_ 0) i_)))))] := hD
              have hP := zP_rowN hP 2 (fil (rifF b_ (f_ 0)) rc_ (i_ + 1)) rfl (fun j_ _ => congrFun (fil_s (rifF b_ (f_ 0)) rc_ i_) j_)
              have hP : va_P D vwCl [((bd 0), .inr (5, [.int (nI 0), .ref (bd 1), .ref (bd 2), .int (nI um_), .ref (bd 3), .ref (bd 4), .ref (bd 5), .int (nI ln_), .int (nI at_), .int (if iw_ = true then 1 else 0), .ref (bd 6), .ref (bd 7), .ref (bd 8), .ref (bd 9), .ref (bd 10), .ref (bd 11), .ref (bd 12), .ref (bd 13), .ref (bd 14)])), ((bd 1), .inl (cy 0, 130, .inl (nIf f_))), (ra_, .inl (cy 0, 16, .inl (nIf (fil (rifF b_ (f_ 0)) rc_ (i_ + 1)))))] H := hP
              have hD : va_D zA [((bd 0), .inr (5, [.int (nI 0), .ref (bd 1), .ref (bd 2), .int (nI um_), .ref (bd 3), .ref (bd 4), .ref (bd 5), .int (nI ln_), .int (nI at_), .int (if iw_ = true then 1 else 0), .ref (bd 6), .ref (bd 7), .ref (bd 8), .ref (bd 9), .ref (bd 10), .ref (bd 11), .ref (bd 12), .ref (bd 13), .ref (bd 14)])), ((bd 1), .inl (cy 0, 130, .inl (nIf f_))), (ra_, .inl (cy 0, 16, .inl (nIf (fil (rifF b_ (f_ 0)) rc_ (i_ + 1)))))] := hD.set (p := 2) rfl
              refine lv_iinc (v := nI (i_ + 1)) (lv' := [(5, .int (nI (i_ + 1))), (0, .ref (bd 0)), (1, .ref ra_), (2, .int (nI b_)), (3, .int (nI (((f_ 0) + 1) / 2))), (4, .int (nI 1))]) hx hb dX8_laysRiffle_82 hl (k := 5) rfl (nI_1 _) (by decide) rfl (fun ls hl => ?_)
              refine lv_goto (tgt := 40) hx hb dX8_laysRiffle_85 (by decide) ?_
              exact ih40 (i_ + 1) (by omega) (by omega) _ _ hP hD hS _ (lv_sub hl [1, 2, 3, 4, 5, 0] rfl)
      exact L40 (f_ 0 - 0 + 1) 0 (Nat.zero_le _) (Nat.lt_succ_self _) _ _ hP hD hS _ (lv_sub hl [3, 4, 5, 2, 1, 0] rfl)
  · skip
    refine lv_aload_n hx hb dX8_laysRiffle_4 rfl (lv_at hl 0 rfl) ?_
    refine va_get (D := D) (ci := 5) (v := .ref (bd 1)) (C := RX8) (T := TX8) (N := 19) hx hb hts (fun w h => List.mem_cons_of_mem _ (zinX8 w h)) hown hK.1 hP 0 rfl rfl 1 (by decide) (hts _ (List.mem_cons_of_mem _ zw_74)) (fun _ h9 => h9) rfl dX8_laysRiffle_5 ?_
    refine lv_iconst (v := nI 0) hx hb dX8_laysRiffle_8 (by decide) ?_
    refine zi_iald (v := nI (f_ 0)) hx hb hK hP 1 rfl (by omega) (by omega) rfl dX8_laysRiffle_9 ?_
    refine lv_iconst (v := nI 2) hx hb dX8_laysRiffle_10 (by decide) ?_
    refine zi_div (v := nI ((f_ 0) / 2)) hx hb dX8_laysRiffle_11 (nI_ne0 (by omega) (by omega)) (pk_div (by omega) (by omega) (by omega)) ?_
    refine lv_goto (tgt := 25) hx hb dX8_laysRiffle_12 (by decide) ?_
    refine lv_istore_n (lv' := [(3, .int (nI ((f_ 0) / 2))), (0, .ref (bd 0)), (1, .ref ra_), (2, .int (nI b_))]) hx hb dX8_laysRiffle_25 rfl hl (by decide) rfl (fun ls hl => ?_)
    refine lv_iload_n hx hb dX8_laysRiffle_26 rfl (lv_at hl 3 rfl) ?_
    refine zb0_eq (a := b_) (tgt := 34) hx hb dX8_laysRiffle_27 (by decide) (by omega) (fun c27 => ?_) (fun c27 => ?_)
    · skip
      refine lv_iconst (v := nI 0) hx hb dX8_laysRiffle_34 (by decide) ?_
      refine lv_istore (lv' := [(4, .int (nI 0)), (3, .int (nI ((f_ 0) / 2))), (0, .ref (bd 0)), (1, .ref ra_), (2, .int (nI b_))]) hx hb dX8_laysRiffle_35 hl (by decide) rfl (fun ls hl => ?_)
      have hP := zP_rowN hP 2 (fil (rifF b_ (f_ 0)) rc_ 0) rfl (fun j_ _ => congrFun (fil_0 (rifF b_ (f_ 0)) rc_) j_)
      have hP : va_P D vwCl [((bd 0), .inr (5, [.int (nI 0), .ref (bd 1), .ref (bd 2), .int (nI um_), .ref (bd 3), .ref (bd 4), .ref (bd 5), .int (nI ln_), .int (nI at_), .int (if iw_ = true then 1 else 0), .ref (bd 6), .ref (bd 7), .ref (bd 8), .ref (bd 9), .ref (bd 10), .ref (bd 11), .ref (bd 12), .ref (bd 13), .ref (bd 14)])), ((bd 1), .inl (cy 0, 130, .inl (nIf f_))), (ra_, .inl (cy 0, 16, .inl (nIf (fil (rifF b_ (f_ 0)) rc_ 0))))] zs.heap := hP
      have hD : va_D zA [((bd 0), .inr (5, [.int (nI 0), .ref (bd 1), .ref (bd 2), .int (nI um_), .ref (bd 3), .ref (bd 4), .ref (bd 5), .int (nI ln_), .int (nI at_), .int (if iw_ = true then 1 else 0), .ref (bd 6), .ref (bd 7), .ref (bd 8), .ref (bd 9), .ref (bd 10), .ref (bd 11), .ref (bd 12), .ref (bd 13), .ref (bd 14)])), ((bd 1), .inl (cy 0, 130, .inl (nIf f_))), (ra_, .inl (cy 0, 16, .inl (nIf (fil (rifF b_ (f_ 0)) rc_ 0))))] := hD.set (p := 2) rfl
      refine lv_iconst (v := nI 0) hx hb dX8_laysRiffle_37 (by decide) ?_
      refine lv_istore (lv' := [(5, .int (nI 0)), (4, .int (nI 0)), (3, .int (nI ((f_ 0) / 2))), (0, .ref (bd 0)), (1, .ref ra_), (2, .int (nI b_))]) hx hb dX8_laysRiffle_38 hl (by decide) rfl (fun ls hl => ?_)
      have L40 : ∀ (kf_ : Nat) (i_ : Nat) (hi : i_ ≤ f_ 0), f_ 0 - i_ < kf_ → ∀ (H : Heap) (locs : List Loc), va_P D vwCl [((bd 0), .inr (5, [.int (nI 0), .ref (bd 1), .ref (bd 2), .int (nI um_), .ref (bd 3), .ref (bd 4), .ref (bd 5), .int (nI ln_), .int (nI at_), .int (if iw_ = true then 1 else 0), .ref (bd 6), .ref (bd 7), .ref (bd 8), .ref (bd 9), .ref (bd 10), .ref (bd 11), .ref (bd 12), .ref (bd 13), .ref (bd 14)])), ((bd 1), .inl (cy 0, 130, .inl (nIf f_))), (ra_, .inl (cy 0, 16, .inl (nIf (fil (rifF b_ (f_ 0)) rc_ i_))))] H → va_D zA [((bd 0), .inr (5, [.int (nI 0), .ref (bd 1), .ref (bd 2), .int (nI um_), .ref (bd 3), .ref (bd 4), .ref (bd 5), .int (nI ln_), .int (nI at_), .int (if iw_ = true then 1 else 0), .ref (bd 6), .ref (bd 7), .ref (bd 8), .ref (bd 9), .ref (bd 10), .ref (bd 11), .ref (bd 12), .ref (bd 13), .ref (bd 14)])), ((bd 1), .inl (cy 0, 130, .inl (nIf f_))), (ra_, .inl (cy 0, 16, .inl (nIf (fil (rifF b_ (f_ 0)) rc_ i_))))] → va_S zA zs.heap H locs → ∀ ls : Array Slot, lv_has ls 6 [(0, .ref (bd 0)), (1, .ref ra_), (2, .int (nI b_)), (3, .int (nI ((f_ 0) / 2))), (4, .int (nI 0)), (5, .int (nI i_))] → W zp l ze r_X8_laysRiffle zs zm za zb zme zc H locs 0 0 Q (F0 zm 40 ls []) := by
        intro kf_
        induction kf_ with
        | zero => intro i_ hi hk_; exact absurd hk_ (Nat.not_lt_zero _)
        | succ kf_ ih40 =>
          intro i_ hi hk_ H locs hP hD hS ls hl
          refine lv_iload hx hb dX8_laysRiffle_40 (lv_at hl 5 rfl) ?_
          refine lv_aload_n hx hb dX8_laysRiffle_42 rfl (lv_at hl 0 rfl) ?_
          refine va_get (D := D) (ci := 5) (v := .ref (bd 1)) (C := RX8) (T := TX8) (N := 19) hx hb hts (fun w h => List.mem_cons_of_mem _ (zinX8 w h)) hown hK.1 hP 0 rfl rfl 1 (by decide) (hts _ (List.mem_cons_of_mem _ zw_74)) (fun _ h9 => h9) rfl dX8_laysRiffle_43 ?_
          refine lv_iconst (v := nI 0) hx hb dX8_laysRiffle_46 (by decide) ?_
          refine zi_iald (v := nI (f_ 0)) hx hb hK hP 1 rfl (by omega) (by omega) rfl dX8_laysRiffle_47 ?_
          refine zb_ge (a := i_) (b := f_ 0) (tgt := 88) hx hb dX8_laysRiffle_48 (by decide) (by omega) (by omega) (fun c48 => ?_) (fun c48 => ?_)
          · skip
            have hP := zP_rowN hP 2 (fil (rifF b_ (f_ 0)) rc_ (f_ 0)) rfl (fun j_ _ => by rw [show i_ = f_ 0 by omega])
            have hP : va_P D vwCl [((bd 0), .inr (5, [.int (nI 0), .ref (bd 1), .ref (bd 2), .int (nI um_), .ref (bd 3), .ref (bd 4), .ref (bd 5), .int (nI ln_), .int (nI at_), .int (if iw_ = true then 1 else 0), .ref (bd 6), .ref (bd 7), .ref (bd 8), .ref (bd 9), .ref (bd 10), .ref (bd 11), .ref (bd 12), .ref (bd 13), .ref (bd 14)])), ((bd 1), .inl (cy 0, 130, .inl (nIf f_))), (ra_, .inl (cy 0, 16, .inl (nIf (fil (rifF b_ (f_ 0)) rc_ (f_ 0)))))] H := hP
            have hD : va_D zA [((bd 0), .inr (5, [.int (nI 0), .ref (bd 1), .ref (bd 2), .int (nI um_), .ref (bd 3), .ref (bd 4), .ref (bd 5), .int (nI ln_), .int (nI at_), .int (if iw_ = true then 1 else 0), .ref (bd 6), .ref (bd 7), .ref (bd 8), .ref (bd 9), .ref (bd 10), .ref (bd 11), .ref (bd 12), .ref (bd 13), .ref (bd 14)])), ((bd 1), .inl (cy 0, 130, .inl (nIf f_))), (ra_, .inl (cy 0, 16, .inl (nIf (fil (rifF b_ (f_ 0)) rc_ (f_ 0)))))] := hD.set (p := 2) rfl
            exact kr () _ _ _ _ dX8_laysRiffle_88 trivial hP hD hS
          · skip
            refine lv_aload_n hx hb dX8_laysRiffle_51 rfl (lv_at hl 1 rfl) ?_
            refine lv_iload hx hb dX8_laysRiffle_52 (lv_at hl 5 rfl) ?_
            refine lv_iload hx hb dX8_laysRiffle_54 (lv_at hl 5 rfl) ?_
            refine lv_iload_n hx hb dX8_laysRiffle_56 rfl (lv_at hl 3 rfl) ?_
            refine zb_ge (a := i_) (b := (f_ 0) / 2) (tgt := 70) hx hb dX8_laysRiffle_57 (by decide) (by omega) (by omega) (fun c57 => ?_) (fun c57 => ?_)
            · skip
              refine lv_iconst (v := nI 2) hx hb dX8_laysRiffle_70 (by decide) ?_
              refine lv_iload hx hb dX8_laysRiffle_71 (lv_at hl 5 rfl) ?_
              refine lv_iload_n hx hb dX8_laysRiffle_73 rfl (lv_at hl 3 rfl) ?_
              refine zi_sub (v := nI (i_ - ((f_ 0) / 2))) hx hb dX8_laysRiffle_74 (pk_sub (by omega)) ?_
              refine zi_mul (v := nI (2 * (i_ - ((f_ 0) / 2)))) hx hb dX8_laysRiffle_75 (pk_mul _ _) ?_
              refine lv_iconst (v := nI 1) hx hb dX8_laysRiffle_76 (by decide) ?_
              refine zi_add (v := nI ((2 * (i_ - ((f_ 0) / 2))) + 1)) hx hb dX8_laysRiffle_77 (nI_add _ _) ?_
              refine lv_iload hx hb dX8_laysRiffle_78 (lv_at hl 4 rfl) ?_
              refine zi_sub (v := nI (rifF b_ (f_ 0) i_)) hx hb dX8_laysRiffle_80 ((pk_sub (by omega)).trans (congrArg nI (Eq.trans (show 2 * (i_ - ((f_ 0) / 2)) + 1 - 0 = 2 * (i_ - ((f_ 0) / 2)) + 1 - b_ by omega) (rif_hi (h := (f_ 0) / 2) (by unfold rifH; split <;> omega) (by omega))))) ?_
              refine zi_iast hx hb hK hP hD hS 2 rfl (by omega) (by omega) dX8_laysRiffle_81 (fun H locs hP hD hS => ?_)
              rw [upd_nIf] at hP hD
              have hP : va_P D vwCl [((bd 0), .inr (5, [.int (nI 0), .ref (bd 1), .ref (bd 2), .int (nI um_), .ref (bd 3), .ref (bd 4), .ref (bd 5), .int (nI ln_), .int (nI at_), .int (if iw_ = true then 1 else 0), .ref (bd 6), .ref (bd 7), .ref (bd 8), .ref (bd 9), .ref (bd 10), .ref (bd 11), .ref (bd 12), .ref (bd 13), .ref (bd 14)])), ((bd 1), .inl (cy 0, 130, .inl (nIf f_))), (ra_, .inl (cy 0, 16, .inl (nIf (uN1 (fil (rifF b_ (f_ 0)) rc_ i_) i_ (rifF b_ (f_ 0) i_)))))] H := hP
              have hD : va_D zA [((bd 0), .inr (5, [.int (nI 0), .ref (bd 1), .ref (bd 2), .int (nI um_), .ref (bd 3), .ref (bd 4), .ref (bd 5), .int (nI ln_), .int (nI at_), .int (if iw_ = true then 1 else 0), .ref (bd 6), .ref (bd 7), .ref (bd 8), .ref (bd 9), .ref (bd 10), .ref (bd 11), .ref (bd 12), .ref (bd 13), .ref (bd 14)])), ((bd 1), .inl (cy 0, 130, .inl (nIf f_))), (ra_, .inl (cy 0, 16, .inl (nIf (uN1 (fil (rifF b_ (f_ 0)) rc_ i_) i_ (rifF b_ (f_ 0) i_)))))] := hD
              have hP := zP_rowN hP 2 (fil (rifF b_ (f_ 0)) rc_ (i_ + 1)) rfl (fun j_ _ => congrFun (fil_s (rifF b_ (f_ 0)) rc_ i_) j_)
              have hP : va_P D vwCl [((bd 0), .inr (5, [.int (nI 0), .ref (bd 1), .ref (bd 2), .int (nI um_), .ref (bd 3), .ref (bd 4), .ref (bd 5), .int (nI ln_), .int (nI at_), .int (if iw_ = true then 1 else 0), .ref (bd 6), .ref (bd 7), .ref (bd 8), .ref (bd 9), .ref (bd 10), .ref (bd 11), .ref (bd 12), .ref (bd 13), .ref (bd 14)])), ((bd 1), .inl (cy 0, 130, .inl (nIf f_))), (ra_, .inl (cy 0, 16, .inl (nIf (fil (rifF b_ (f_ 0)) rc_ (i_ + 1)))))] H := hP
              have hD : va_D zA [((bd 0), .inr (5, [.int (nI 0), .ref (bd 1), .ref (bd 2), .int (nI um_), .ref (bd 3), .ref (bd 4), .ref (bd 5), .int (nI ln_), .int (nI at_), .int (if iw_ = true then 1 else 0), .ref (bd 6), .ref (bd 7), .ref (bd 8), .ref (bd 9), .ref (bd 10), .ref (bd 11), .ref (bd 12), .ref (bd 13), .ref (bd 14)])), ((bd 1), .inl (cy 0, 130, .inl (nIf f_))), (ra_, .inl (cy 0, 16, .inl (nIf (fil (rifF b_ (f_ 0)) rc_ (i_ + 1)))))] := hD.set (p := 2) rfl
              refine lv_iinc (v := nI (i_ + 1)) (lv' := [(5, .int (nI (i_ + 1))), (0, .ref (bd 0)), (1, .ref ra_), (2, .int (nI b_)), (3, .int (nI ((f_ 0) / 2))), (4, .int (nI 0))]) hx hb dX8_laysRiffle_82 hl (k := 5) rfl (nI_1 _) (by decide) rfl (fun ls hl => ?_)
              refine lv_goto (tgt := 40) hx hb dX8_laysRiffle_85 (by decide) ?_
              exact ih40 (i_ + 1) (by omega) (by omega) _ _ hP hD hS _ (lv_sub hl [1, 2, 3, 4, 5, 0] rfl)
            · skip
              refine lv_iconst (v := nI 2) hx hb dX8_laysRiffle_60 (by decide) ?_
              refine lv_iload hx hb dX8_laysRiffle_61 (lv_at hl 5 rfl) ?_
              refine zi_mul (v := nI (2 * i_)) hx hb dX8_laysRiffle_63 (pk_mul _ _) ?_
              refine lv_iload hx hb dX8_laysRiffle_64 (lv_at hl 4 rfl) ?_
              refine zi_add (v := nI (rifF b_ (f_ 0) i_)) hx hb dX8_laysRiffle_66 ((nI_add _ _).trans (congrArg nI (Eq.trans (show 2 * i_ + 0 = 2 * i_ + b_ by omega) (rif_lo (h := (f_ 0) / 2) (by unfold rifH; split <;> omega) (by omega))))) ?_
              refine lv_goto (tgt := 81) hx hb dX8_laysRiffle_67 (by decide) ?_
              refine zi_iast hx hb hK hP hD hS 2 rfl (by omega) (by omega) dX8_laysRiffle_81 (fun H locs hP hD hS => ?_)
              rw [upd_nIf] at hP hD
              have hP : va_P D vwCl [((bd 0), .inr (5, [.int (nI 0), .ref (bd 1), .ref (bd 2), .int (nI um_), .ref (bd 3), .ref (bd 4), .ref (bd 5), .int (nI ln_), .int (nI at_), .int (if iw_ = true then 1 else 0), .ref (bd 6), .ref (bd 7), .ref (bd 8), .ref (bd 9), .ref (bd 10), .ref (bd 11), .ref (bd 12), .ref (bd 13), .ref (bd 14)])), ((bd 1), .inl (cy 0, 130, .inl (nIf f_))), (ra_, .inl (cy 0, 16, .inl (nIf (uN1 (fil (rifF b_ (f_ 0)) rc_ i_) i_ (rifF b_ (f_ 0) i_)))))] H := hP
              have hD : va_D zA [((bd 0), .inr (5, [.int (nI 0), .ref (bd 1), .ref (bd 2), .int (nI um_), .ref (bd 3), .ref (bd 4), .ref (bd 5), .int (nI ln_), .int (nI at_), .int (if iw_ = true then 1 else 0), .ref (bd 6), .ref (bd 7), .ref (bd 8), .ref (bd 9), .ref (bd 10), .ref (bd 11), .ref (bd 12), .ref (bd 13), .ref (bd 14)])), ((bd 1), .inl (cy 0, 130, .inl (nIf f_))), (ra_, .inl (cy 0, 16, .inl (nIf (uN1 (fil (rifF b_ (f_ 0)) rc_ i_) i_ (rifF b_ (f_ 0) i_)))))] := hD
              have hP := zP_rowN hP 2 (fil (rifF b_ (f_ 0)) rc_ (i_ + 1)) rfl (fun j_ _ => congrFun (fil_s (rifF b_ (f_ 0)) rc_ i_) j_)
              have hP : va_P D vwCl [((bd 0), .inr (5, [.int (nI 0), .ref (bd 1), .ref (bd 2), .int (nI um_), .ref (bd 3), .ref (bd 4), .ref (bd 5), .int (nI ln_), .int (nI at_), .int (if iw_ = true then 1 else 0), .ref (bd 6), .ref (bd 7), .ref (bd 8), .ref (bd 9), .ref (bd 10), .ref (bd 11), .ref (bd 12), .ref (bd 13), .ref (bd 14)])), ((bd 1), .inl (cy 0, 130, .inl (nIf f_))), (ra_, .inl (cy 0, 16, .inl (nIf (fil (rifF b_ (f_ 0)) rc_ (i_ + 1)))))] H := hP
              have hD : va_D zA [((bd 0), .inr (5, [.int (nI 0), .ref (bd 1), .ref (bd 2), .int (nI um_), .ref (bd 3), .ref (bd 4), .ref (bd 5), .int (nI ln_), .int (nI at_), .int (if iw_ = true then 1 else 0), .ref (bd 6), .ref (bd 7), .ref (bd 8), .ref (bd 9), .ref (bd 10), .ref (bd 11), .ref (bd 12), .ref (bd 13), .ref (bd 14)])), ((bd 1), .inl (cy 0, 130, .inl (nIf f_))), (ra_, .inl (cy 0, 16, .inl (nIf (fil (rifF b_ (f_ 0)) rc_ (i_ + 1)))))] := hD.set (p := 2) rfl
              refine lv_iinc (v := nI (i_ + 1)) (lv' := [(5, .int (nI (i_ + 1))), (0, .ref (bd 0)), (1, .ref ra_), (2, .int (nI b_)), (3, .int (nI ((f_ 0) / 2))), (4, .int (nI 0))]) hx hb dX8_laysRiffle_82 hl (k := 5) rfl (nI_1 _) (by decide) rfl (fun ls hl => ?_)
              refine lv_goto (tgt := 40) hx hb dX8_laysRiffle_85 (by decide) ?_
              exact ih40 (i_ + 1) (by omega) (by omega) _ _ hP hD hS _ (lv_sub hl [1, 2, 3, 4, 5, 0] rfl)
      exact L40 (f_ 0 - 0 + 1) 0 (Nat.zero_le _) (Nat.lt_succ_self _) _ _ hP hD hS _ (lv_sub hl [3, 4, 5, 2, 1, 0] rfl)
    · skip
      refine lv_iconst (v := nI 1) hx hb dX8_laysRiffle_30 (by decide) ?_
      refine lv_goto (tgt := 35) hx hb dX8_laysRiffle_31 (by decide) ?_
      refine lv_istore (lv' := [(4, .int (nI 1)), (3, .int (nI ((f_ 0) / 2))), (0, .ref (bd 0)), (1, .ref ra_), (2, .int (nI b_))]) hx hb dX8_laysRiffle_35 hl (by decide) rfl (fun ls hl => ?_)
      have hP := zP_rowN hP 2 (fil (rifF b_ (f_ 0)) rc_ 0) rfl (fun j_ _ => congrFun (fil_0 (rifF b_ (f_ 0)) rc_) j_)
      have hP : va_P D vwCl [((bd 0), .inr (5, [.int (nI 0), .ref (bd 1), .ref (bd 2), .int (nI um_), .ref (bd 3), .ref (bd 4), .ref (bd 5), .int (nI ln_), .int (nI at_), .int (if iw_ = true then 1 else 0), .ref (bd 6), .ref (bd 7), .ref (bd 8), .ref (bd 9), .ref (bd 10), .ref (bd 11), .ref (bd 12), .ref (bd 13), .ref (bd 14)])), ((bd 1), .inl (cy 0, 130, .inl (nIf f_))), (ra_, .inl (cy 0, 16, .inl (nIf (fil (rifF b_ (f_ 0)) rc_ 0))))] zs.heap := hP
      have hD : va_D zA [((bd 0), .inr (5, [.int (nI 0), .ref (bd 1), .ref (bd 2), .int (nI um_), .ref (bd 3), .ref (bd 4), .ref (bd 5), .int (nI ln_), .int (nI at_), .int (if iw_ = true then 1 else 0), .ref (bd 6), .ref (bd 7), .ref (bd 8), .ref (bd 9), .ref (bd 10), .ref (bd 11), .ref (bd 12), .ref (bd 13), .ref (bd 14)])), ((bd 1), .inl (cy 0, 130, .inl (nIf f_))), (ra_, .inl (cy 0, 16, .inl (nIf (fil (rifF b_ (f_ 0)) rc_ 0))))] := hD.set (p := 2) rfl
      refine lv_iconst (v := nI 0) hx hb dX8_laysRiffle_37 (by decide) ?_
      refine lv_istore (lv' := [(5, .int (nI 0)), (4, .int (nI 1)), (3, .int (nI ((f_ 0) / 2))), (0, .ref (bd 0)), (1, .ref ra_), (2, .int (nI b_))]) hx hb dX8_laysRiffle_38 hl (by decide) rfl (fun ls hl => ?_)
      have L40 : ∀ (kf_ : Nat) (i_ : Nat) (hi : i_ ≤ f_ 0), f_ 0 - i_ < kf_ → ∀ (H : Heap) (locs : List Loc), va_P D vwCl [((bd 0), .inr (5, [.int (nI 0), .ref (bd 1), .ref (bd 2), .int (nI um_), .ref (bd 3), .ref (bd 4), .ref (bd 5), .int (nI ln_), .int (nI at_), .int (if iw_ = true then 1 else 0), .ref (bd 6), .ref (bd 7), .ref (bd 8), .ref (bd 9), .ref (bd 10), .ref (bd 11), .ref (bd 12), .ref (bd 13), .ref (bd 14)])), ((bd 1), .inl (cy 0, 130, .inl (nIf f_))), (ra_, .inl (cy 0, 16, .inl (nIf (fil (rifF b_ (f_ 0)) rc_ i_))))] H → va_D zA [((bd 0), .inr (5, [.int (nI 0), .ref (bd 1), .ref (bd 2), .int (nI um_), .ref (bd 3), .ref (bd 4), .ref (bd 5), .int (nI ln_), .int (nI at_), .int (if iw_ = true then 1 else 0), .ref (bd 6), .ref (bd 7), .ref (bd 8), .ref (bd 9), .ref (bd 10), .ref (bd 11), .ref (bd 12), .ref (bd 13), .ref (bd 14)])), ((bd 1), .inl (cy 0, 130, .inl (nIf f_))), (ra_, .inl (cy 0, 16, .inl (nIf (fil (rifF b_ (f_ 0)) rc_ i_))))] → va_S zA zs.heap H locs → ∀ ls : Array Slot, lv_has ls 6 [(0, .ref (bd 0)), (1, .ref ra_), (2, .int (nI b_)), (3, .int (nI ((f_ 0) / 2))), (4, .int (nI 1)), (5, .int (nI i_))] → W zp l ze r_X8_laysRiffle zs zm za zb zme zc H locs 0 0 Q (F0 zm 40 ls []) := by
        intro kf_
        induction kf_ with
        | zero => intro i_ hi hk_; exact absurd hk_ (Nat.not_lt_zero _)
        | succ kf_ ih40 =>
          intro i_ hi hk_ H locs hP hD hS ls hl
          refine lv_iload hx hb dX8_laysRiffle_40 (lv_at hl 5 rfl) ?_
          refine lv_aload_n hx hb dX8_laysRiffle_42 rfl (lv_at hl 0 rfl) ?_
          refine va_get (D := D) (ci := 5) (v := .ref (bd 1)) (C := RX8) (T := TX8) (N := 19) hx hb hts (fun w h => List.mem_cons_of_mem _ (zinX8 w h)) hown hK.1 hP 0 rfl rfl 1 (by decide) (hts _ (List.mem_cons_of_mem _ zw_74)) (fun _ h9 => h9) rfl dX8_laysRiffle_43 ?_
          refine lv_iconst (v := nI 0) hx hb dX8_laysRiffle_46 (by decide) ?_
          refine zi_iald (v := nI (f_ 0)) hx hb hK hP 1 rfl (by omega) (by omega) rfl dX8_laysRiffle_47 ?_
          refine zb_ge (a := i_) (b := f_ 0) (tgt := 88) hx hb dX8_laysRiffle_48 (by decide) (by omega) (by omega) (fun c48 => ?_) (fun c48 => ?_)
          · skip
            have hP := zP_rowN hP 2 (fil (rifF b_ (f_ 0)) rc_ (f_ 0)) rfl (fun j_ _ => by rw [show i_ = f_ 0 by omega])
            have hP : va_P D vwCl [((bd 0), .inr (5, [.int (nI 0), .ref (bd 1), .ref (bd 2), .int (nI um_), .ref (bd 3), .ref (bd 4), .ref (bd 5), .int (nI ln_), .int (nI at_), .int (if iw_ = true then 1 else 0), .ref (bd 6), .ref (bd 7), .ref (bd 8), .ref (bd 9), .ref (bd 10), .ref (bd 11), .ref (bd 12), .ref (bd 13), .ref (bd 14)])), ((bd 1), .inl (cy 0, 130, .inl (nIf f_))), (ra_, .inl (cy 0, 16, .inl (nIf (fil (rifF b_ (f_ 0)) rc_ (f_ 0)))))] H := hP
            have hD : va_D zA [((bd 0), .inr (5, [.int (nI 0), .ref (bd 1), .ref (bd 2), .int (nI um_), .ref (bd 3), .ref (bd 4), .ref (bd 5), .int (nI ln_), .int (nI at_), .int (if iw_ = true then 1 else 0), .ref (bd 6), .ref (bd 7), .ref (bd 8), .ref (bd 9), .ref (bd 10), .ref (bd 11), .ref (bd 12), .ref (bd 13), .ref (bd 14)])), ((bd 1), .inl (cy 0, 130, .inl (nIf f_))), (ra_, .inl (cy 0, 16, .inl (nIf (fil (rifF b_ (f_ 0)) rc_ (f_ 0)))))] := hD.set (p := 2) rfl
            exact kr () _ _ _ _ dX8_laysRiffle_88 trivial hP hD hS
          · skip
            refine lv_aload_n hx hb dX8_laysRiffle_51 rfl (lv_at hl 1 rfl) ?_
            refine lv_iload hx hb dX8_laysRiffle_52 (lv_at hl 5 rfl) ?_
            refine lv_iload hx hb dX8_laysRiffle_54 (lv_at hl 5 rfl) ?_
            refine lv_iload_n hx hb dX8_laysRiffle_56 rfl (lv_at hl 3 rfl) ?_
            refine zb_ge (a := i_) (b := (f_ 0) / 2) (tgt := 70) hx hb dX8_laysRiffle_57 (by decide) (by omega) (by omega) (fun c57 => ?_) (fun c57 => ?_)
            · skip
              refine lv_iconst (v := nI 2) hx hb dX8_laysRiffle_70 (by decide) ?_
              refine lv_iload hx hb dX8_laysRiffle_71 (lv_at hl 5 rfl) ?_
              refine lv_iload_n hx hb dX8_laysRiffle_73 rfl (lv_at hl 3 rfl) ?_
              refine zi_sub (v := nI (i_ - ((f_ 0) / 2))) hx hb dX8_laysRiffle_74 (pk_sub (by omega)) ?_
              refine zi_mul (v := nI (2 * (i_ - ((f_ 0) / 2)))) hx hb dX8_laysRiffle_75 (pk_mul _ _) ?_
              refine lv_iconst (v := nI 1) hx hb dX8_laysRiffle_76 (by decide) ?_
              refine zi_add (v := nI ((2 * (i_ - ((f_ 0) / 2))) + 1)) hx hb dX8_laysRiffle_77 (nI_add _ _) ?_
              refine lv_iload hx hb dX8_laysRiffle_78 (lv_at hl 4 rfl) ?_
              refine zi_sub (v := nI (rifF b_ (f_ 0) i_)) hx hb dX8_laysRiffle_80 ((pk_sub (by omega)).trans (congrArg nI (Eq.trans (show 2 * (i_ - ((f_ 0) / 2)) + 1 - 1 = 2 * (i_ - ((f_ 0) / 2)) + 1 - b_ by omega) (rif_hi (h := (f_ 0) / 2) (by unfold rifH; split <;> omega) (by omega))))) ?_
              refine zi_iast hx hb hK hP hD hS 2 rfl (by omega) (by omega) dX8_laysRiffle_81 (fun H locs hP hD hS => ?_)
              rw [upd_nIf] at hP hD
              have hP : va_P D vwCl [((bd 0), .inr (5, [.int (nI 0), .ref (bd 1), .ref (bd 2), .int (nI um_), .ref (bd 3), .ref (bd 4), .ref (bd 5), .int (nI ln_), .int (nI at_), .int (if iw_ = true then 1 else 0), .ref (bd 6), .ref (bd 7), .ref (bd 8), .ref (bd 9), .ref (bd 10), .ref (bd 11), .ref (bd 12), .ref (bd 13), .ref (bd 14)])), ((bd 1), .inl (cy 0, 130, .inl (nIf f_))), (ra_, .inl (cy 0, 16, .inl (nIf (uN1 (fil (rifF b_ (f_ 0)) rc_ i_) i_ (rifF b_ (f_ 0) i_)))))] H := hP
              have hD : va_D zA [((bd 0), .inr (5, [.int (nI 0), .ref (bd 1), .ref (bd 2), .int (nI um_), .ref (bd 3), .ref (bd 4), .ref (bd 5), .int (nI ln_), .int (nI at_), .int (if iw_ = true then 1 else 0), .ref (bd 6), .ref (bd 7), .ref (bd 8), .ref (bd 9), .ref (bd 10), .ref (bd 11), .ref (bd 12), .ref (bd 13), .ref (bd 14)])), ((bd 1), .inl (cy 0, 130, .inl (nIf f_))), (ra_, .inl (cy 0, 16, .inl (nIf (uN1 (fil (rifF b_ (f_ 0)) rc_ i_) i_ (rifF b_ (f_ 0) i_)))))] := hD
              have hP := zP_rowN hP 2 (fil (rifF b_ (f_ 0)) rc_ (i_ + 1)) rfl (fun j_ _ => congrFun (fil_s (rifF b_ (f_ 0)) rc_ i_) j_)
              have hP : va_P D vwCl [((bd 0), .inr (5, [.int (nI 0), .ref (bd 1), .ref (bd 2), .int (nI um_), .ref (bd 3), .ref (bd 4), .ref (bd 5), .int (nI ln_), .int (nI at_), .int (if iw_ = true then 1 else 0), .ref (bd 6), .ref (bd 7), .ref (bd 8), .ref (bd 9), .ref (bd 10), .ref (bd 11), .ref (bd 12), .ref (bd 13), .ref (bd 14)])), ((bd 1), .inl (cy 0, 130, .inl (nIf f_))), (ra_, .inl (cy 0, 16, .inl (nIf (fil (rifF b_ (f_ 0)) rc_ (i_ + 1)))))] H := hP
              have hD : va_D zA [((bd 0), .inr (5, [.int (nI 0), .ref (bd 1), .ref (bd 2), .int (nI um_), .ref (bd 3), .ref (bd 4), .ref (bd 5), .int (nI ln_), .int (nI at_), .int (if iw_ = true then 1 else 0), .ref (bd 6), .ref (bd 7), .ref (bd 8), .ref (bd 9), .ref (bd 10), .ref (bd 11), .ref (bd 12), .ref (bd 13), .ref (bd 14)])), ((bd 1), .inl (cy 0, 130, .inl (nIf f_))), (ra_, .inl (cy 0, 16, .inl (nIf (fil (rifF b_ (f_ 0)) rc_ (i_ + 1)))))] := hD.set (p := 2) rfl
              refine lv_iinc (v := nI (i_ + 1)) (lv' := [(5, .int (nI (i_ + 1))), (0, .ref (bd 0)), (1, .ref ra_), (2, .int (nI b_)), (3, .int (nI ((f_ 0) / 2))), (4, .int (nI 1))]) hx hb dX8_laysRiffle_82 hl (k := 5) rfl (nI_1 _) (by decide) rfl (fun ls hl => ?_)
              refine lv_goto (tgt := 40) hx hb dX8_laysRiffle_85 (by decide) ?_
              exact ih40 (i_ + 1) (by omega) (by omega) _ _ hP hD hS _ (lv_sub hl [1, 2, 3, 4, 5, 0] rfl)
            · skip
              refine lv_iconst (v := nI 2) hx hb dX8_laysRiffle_60 (by decide) ?_
              refine lv_iload hx hb dX8_laysRiffle_61 (lv_at hl 5 rfl) ?_
              refine zi_mul (v := nI (2 * i_)) hx hb dX8_laysRiffle_63 (pk_mul _ _) ?_
              refine lv_iload hx hb dX8_laysRiffle_64 (lv_at hl 4 rfl) ?_
              refine zi_add (v := nI (rifF b_ (f_ 0) i_)) hx hb dX8_laysRiffle_66 ((nI_add _ _).trans (congrArg nI (Eq.trans (show 2 * i_ + 1 = 2 * i_ + b_ by omega) (rif_lo (h := (f_ 0) / 2) (by unfold rifH; split <;> omega) (by omega))))) ?_
              refine lv_goto (tgt := 81) hx hb dX8_laysRiffle_67 (by decide) ?_
              refine zi_iast hx hb hK hP hD hS 2 rfl (by omega) (by omega) dX8_laysRiffle_81 (fun H locs hP hD hS => ?_)
              rw [upd_nIf] at hP hD
              have hP : va_P D vwCl [((bd 0), .inr (5, [.int (nI 0), .ref (bd 1), .ref (bd 2), .int (nI um_), .ref (bd 3), .ref (bd 4), .ref (bd 5), .int (nI ln_), .int (nI at_), .int (if iw_ = true then 1 else 0), .ref (bd 6), .ref (bd 7), .ref (bd 8), .ref (bd 9), .ref (bd 10), .ref (bd 11), .ref (bd 12), .ref (bd 13), .ref (bd 14)])), ((bd 1), .inl (cy 0, 130, .inl (nIf f_))), (ra_, .inl (cy 0, 16, .inl (nIf (uN1 (fil (rifF b_ (f_ 0)) rc_ i_) i_ (rifF b_ (f_ 0) i_)))))] H := hP
              have hD : va_D zA [((bd 0), .inr (5, [.int (nI 0), .ref (bd 1), .ref (bd 2), .int (nI um_), .ref (bd 3), .ref (bd 4), .ref (bd 5), .int (nI ln_), .int (nI at_), .int (if iw_ = true then 1 else 0), .ref (bd 6), .ref (bd 7), .ref (bd 8), .ref (bd 9), .ref (bd 10), .ref (bd 11), .ref (bd 12), .ref (bd 13), .ref (bd 14)])), ((bd 1), .inl (cy 0, 130, .inl (nIf f_))), (ra_, .inl (cy 0, 16, .inl (nIf (uN1 (fil (rifF b_ (f_ 0)) rc_ i_) i_ (rifF b_ (f_ 0) i_)))))] := hD
              have hP := zP_rowN hP 2 (fil (rifF b_ (f_ 0)) rc_ (i_ + 1)) rfl (fun j_ _ => congrFun (fil_s (rifF b_ (f_ 0)) rc_ i_) j_)
              have hP : va_P D vwCl [((bd 0), .inr (5, [.int (nI 0), .ref (bd 1), .ref (bd 2), .int (nI um_), .ref (bd 3), .ref (bd 4), .ref (bd 5), .int (nI ln_), .int (nI at_), .int (if iw_ = true then 1 else 0), .ref (bd 6), .ref (bd 7), .ref (bd 8), .ref (bd 9), .ref (bd 10), .ref (bd 11), .ref (bd 12), .ref (bd 13), .ref (bd 14)])), ((bd 1), .inl (cy 0, 130, .inl (nIf f_))), (ra_, .inl (cy 0, 16, .inl (nIf (fil (rifF b_ (f_ 0)) rc_ (i_ + 1)))))] H := hP
              have hD : va_D zA [((bd 0), .inr (5, [.int (nI 0), .ref (bd 1), .ref (bd 2), .int (nI um_), .ref (bd 3), .ref (bd 4), .ref (bd 5), .int (nI ln_), .int (nI at_), .int (if iw_ = true then 1 else 0), .ref (bd 6), .ref (bd 7), .ref (bd 8), .ref (bd 9), .ref (bd 10), .ref (bd 11), .ref (bd 12), .ref (bd 13), .ref (bd 14)])), ((bd 1), .inl (cy 0, 130, .inl (nIf f_))), (ra_, .inl (cy 0, 16, .inl (nIf (fil (rifF b_ (f_ 0)) rc_ (i_ + 1)))))] := hD.set (p := 2) rfl
              refine lv_iinc (v := nI (i_ + 1)) (lv' := [(5, .int (nI (i_ + 1))), (0, .ref (bd 0)), (1, .ref ra_), (2, .int (nI b_)), (3, .int (nI ((f_ 0) / 2))), (4, .int (nI 1))]) hx hb dX8_laysRiffle_82 hl (k := 5) rfl (nI_1 _) (by decide) rfl (fun ls hl => ?_)
              refine lv_goto (tgt := 40) hx hb dX8_laysRiffle_85 (by decide) ?_
              exact ih40 (i_ + 1) (by omega) (by omega) _ _ hP hD hS _ (lv_sub hl [1, 2, 3, 4, 5, 0] rfl)
      exact L40 (f_ 0 - 0 + 1) 0 (Nat.zero_le _) (Nat.lt_succ_self _) _ _ hP hD hS _ (lv_sub hl [3, 4, 5, 2, 1, 0] rfl)
abbrev w_X8_laysTurn : List Cond := Cond.code yX8_laysTurn cX8_laysTurn 3 none :: zAll
abbrev r_X8_laysTurn : Room := { frames := 0, cells := 0, slots := 0, locals := 0 }
theorem zd_X8_laysTurn : yX8_laysTurn.cls = RX8 ∧ yX8_laysTurn.cls ≠ "java/lang/invoke/MethodHandle" ∧ yX8_laysTurn.cls ≠ "java/lang/invoke/VarHandle" ∧ (parseMethodDescriptor yX8_laysTurn.desc).map (fun d => d.parameters.length) = some 1 := by decide +kernel
set_option maxHeartbeats 4000000 in
set_option maxRecDepth 100000 in
theorem c_X8_laysTurn (l : Launch) (D : va_G) (cy : Nat → ClassId) (sz : Nat) (bd : Nat → Nat) (um_ : Nat) (ln_ : Nat) (at_ : Nat) (iw_ : Bool) (f_ : Nat → Nat) (ra_ : Nat) (rc_ : Nat → Nat) (hN_ : f_ 0 ≤ 16) : zWv l yX8_laysTurn w_X8_laysTurn r_X8_laysTurn D cy [((bd 0), .inr (5, [.int (nI 0), .ref (bd 1), .ref (bd 2), .int (nI um_), .ref (bd 3), .ref (bd 4), .ref (bd 5), .int (nI ln_), .int (nI at_), .int (if iw_ = true then 1 else 0), .ref (bd 6), .ref (bd 7), .ref (bd 8), .ref (bd 9), .ref (bd 10), .ref (bd 11), .ref (bd 12), .ref (bd 13), .ref (bd 14)])), ((bd 1), .inl (cy 0, 130, .inl (nIf f_))), (ra_, .inl (cy 0, 16, .inl (nIf rc_)))] sz [.ref (bd 0), .ref ra_] (fun u : Unit => True) (fun u : Unit => ([((bd 0), .inr (5, [.int (nI 0), .ref (bd 1), .ref (bd 2), .int (nI um_), .ref (bd 3), .ref (bd 4), .ref (bd 5), .int (nI ln_), .int (nI at_), .int (if iw_ = true then 1 else 0), .ref (bd 6), .ref (bd 7), .ref (bd 8), .ref (bd 9), .ref (bd 10), .ref (bd 11), .ref (bd 12), .ref (bd 13), .ref (bd 14)])), ((bd 1), .inl (cy 0, 130, .inl (nIf f_))), (ra_, .inl (cy 0, 16, .inl (nIf (fil (turF (f_ 0)) rc_ (f_ 0)))))] : va_W)) 0 0 := by
  refine zOfV (cc := cX8_laysTurn) (maxL := 3) (by decide) rfl (Nat.le_of_ble_eq_true rfl) ?_
  intro zp ze zs zm za zb zme zc hx hb hml hts hown hP hK zA hD hA Q kr ls hl hin
  have hS : va_S zA zs.heap zs.heap [] := va_S.rf
  have hown : zs.vm.findClass RX8 = some zm.cls := hown
  have hl : lv_has ls 3 [(0, .ref (bd 0)), (1, .ref ra_)] := hl
  have hP := zP_rowN hP 2 (fil (turF (f_ 0)) rc_ 0) rfl (fun j_ _ => congrFun (fil_0 (turF (f_ 0)) rc_) j_)
  have hP : va_P D vwCl [((bd 0), .inr (5, [.int (nI 0), .ref (bd 1), .ref (bd 2), .int (nI um_), .ref (bd 3), .ref (bd 4), .ref (bd 5), .int (nI ln_), .int (nI at_), .int (if iw_ = true then 1 else 0), .ref (bd 6), .ref (bd 7), .ref (bd 8), .ref (bd 9), .ref (bd 10), .ref (bd 11), .ref (bd 12), .ref (bd 13), .ref (bd 14)])), ((bd 1), .inl (cy 0, 130, .inl (nIf f_))), (ra_, .inl (cy 0, 16, .inl (nIf (fil (turF (f_ 0)) rc_ 0))))] zs.heap := hP
  have hD : va_D zA [((bd 0), .inr (5, [.int (nI 0), .ref (bd 1), .ref (bd 2), .int (nI um_), .ref (bd 3), .ref (bd 4), .ref (bd 5), .int (nI ln_), .int (nI at_), .int (if iw_ = true then 1 else 0), .ref (bd 6), .ref (bd 7), .ref (bd 8), .ref (bd 9), .ref (bd 10), .ref (bd 11), .ref (bd 12), .ref (bd 13), .ref (bd 14)])), ((bd 1), .inl (cy 0, 130, .inl (nIf f_))), (ra_, .inl (cy 0, 16, .inl (nIf (fil (turF (f_ 0)) rc_ 0))))] := hD.set (p := 2) rfl
  refine lv_iconst (v := nI 0) hx hb dX8_laysTurn_0 (by decide) ?_
  refine lv_istore_n (lv' := [(2, .int (nI 0)), (0, .ref (bd 0)), (1, .ref ra_)]) hx hb dX8_laysTurn_1 rfl hl (by decide) rfl (fun ls hl => ?_)
  have L2 : ∀ (kf_ : Nat) (i_ : Nat) (hi : i_ ≤ f_ 0), f_ 0 - i_ < kf_ → ∀ (H : Heap) (locs : List Loc), va_P D vwCl [((bd 0), .inr (5, [.int (nI 0), .ref (bd 1), .ref (bd 2), .int (nI um_), .ref (bd 3), .ref (bd 4), .ref (bd 5), .int (nI ln_), .int (nI at_), .int (if iw_ = true then 1 else 0), .ref (bd 6), .ref (bd 7), .ref (bd 8), .ref (bd 9), .ref (bd 10), .ref (bd 11), .ref (bd 12), .ref (bd 13), .ref (bd 14)])), ((bd 1), .inl (cy 0, 130, .inl (nIf f_))), (ra_, .inl (cy 0, 16, .inl (nIf (fil (turF (f_ 0)) rc_ i_))))] H → va_D zA [((bd 0), .inr (5, [.int (nI 0), .ref (bd 1), .ref (bd 2), .int (nI um_), .ref (bd 3), .ref (bd 4), .ref (bd 5), .int (nI ln_), .int (nI at_), .int (if iw_ = true then 1 else 0), .ref (bd 6), .ref (bd 7), .ref (bd 8), .ref (bd 9), .ref (bd 10), .ref (bd 11), .ref (bd 12), .ref (bd 13), .ref (bd 14)])), ((bd 1), .inl (cy 0, 130, .inl (nIf f_))), (ra_, .inl (cy 0, 16, .inl (nIf (fil (turF (f_ 0)) rc_ i_))))] → va_S zA zs.heap H locs → ∀ ls : Array Slot, lv_has ls 3 [(0, .ref (bd 0)), (1, .ref ra_), (2, .int (nI i_))] → W zp l ze r_X8_laysTurn zs zm za zb zme zc H locs 0 0 Q (F0 zm 2 ls []) := by
    intro kf_
    induction kf_ with
    | zero => intro i_ hi hk_; exact absurd hk_ (Nat.not_lt_zero _)
    | succ kf_ ih2 =>
      intro i_ hi hk_ H locs hP hD hS ls hl
      refine lv_iload_n hx hb dX8_laysTurn_2 rfl (lv_at hl 2 rfl) ?_
      refine lv_aload_n hx hb dX8_laysTurn_3 rfl (lv_at hl 0 rfl) ?_
      refine va_get (D := D) (ci := 5) (v := .ref (bd 1)) (C := RX8) (T := TX8) (N := 19) hx hb hts (fun w h => List.mem_cons_of_mem _ (zinX8 w h)) hown hK.1 hP 0 rfl rfl 1 (by decide) (hts _ (List.mem_cons_of_mem _ zw_74)) (fun _ h9 => h9) rfl dX8_laysTurn_4 ?_
      refine lv_iconst (v := nI 0) hx hb dX8_laysTurn_7 (by decide) ?_
      refine zi_iald (v := nI (f_ 0)) hx hb hK hP 1 rfl (by omega) (by omega) rfl dX8_laysTurn_8 ?_
      refine zb_ge (a := i_) (b := f_ 0) (tgt := 31) hx hb dX8_laysTurn_9 (by decide) (by omega) (by omega) (fun c9 => ?_) (fun c9 => ?_)
      · skip
        have hP := zP_rowN hP 2 (fil (turF (f_ 0)) rc_ (f_ 0)) rfl (fun j_ _ => by rw [show i_ = f_ 0 by omega])
        have hP : va_P D vwCl [((bd 0), .inr (5, [.int (nI 0), .ref (bd 1), .ref (bd 2), .int (nI um_), .ref (bd 3), .ref (bd 4), .ref (bd 5), .int (nI ln_), .int (nI at_), .int (if iw_ = true then 1 else 0), .ref (bd 6), .ref (bd 7), .ref (bd 8), .ref (bd 9), .ref (bd 10), .ref (bd 11), .ref (bd 12), .ref (bd 13), .ref (bd 14)])), ((bd 1), .inl (cy 0, 130, .inl (nIf f_))), (ra_, .inl (cy 0, 16, .inl (nIf (fil (turF (f_ 0)) rc_ (f_ 0)))))] H := hP
        have hD : va_D zA [((bd 0), .inr (5, [.int (nI 0), .ref (bd 1), .ref (bd 2), .int (nI um_), .ref (bd 3), .ref (bd 4), .ref (bd 5), .int (nI ln_), .int (nI at_), .int (if iw_ = true then 1 else 0), .ref (bd 6), .ref (bd 7), .ref (bd 8), .ref (bd 9), .ref (bd 10), .ref (bd 11), .ref (bd 12), .ref (bd 13), .ref (bd 14)])), ((bd 1), .inl (cy 0, 130, .inl (nIf f_))), (ra_, .inl (cy 0, 16, .inl (nIf (fil (turF (f_ 0)) rc_ (f_ 0)))))] := hD.set (p := 2) rfl
        exact kr () _ _ _ _ dX8_laysTurn_31 trivial hP hD hS
      · skip
        refine lv_aload_n hx hb dX8_laysTurn_12 rfl (lv_at hl 1 rfl) ?_
        refine lv_iload_n hx hb dX8_laysTurn_13 rfl (lv_at hl 2 rfl) ?_
        refine lv_aload_n hx hb dX8_laysTurn_14 rfl (lv_at hl 0 rfl) ?_
        refine va_get (D := D) (ci := 5) (v := .ref (bd 1)) (C := RX8) (T := TX8) (N := 19) hx hb hts (fun w h => List.mem_cons_of_mem _ (zinX8 w h)) hown hK.1 hP 0 rfl rfl 1 (by decide) (hts _ (List.mem_cons_of_mem _ zw_74)) (fun _ h9 => h9) rfl dX8_laysTurn_15 ?_
        refine lv_iconst (v := nI 0) hx hb dX8_laysTurn_18 (by decide) ?_
        refine zi_iald (v := nI (f_ 0)) hx hb hK hP 1 rfl (by omega) (by omega) rfl dX8_laysTurn_19 ?_
        refine lv_iconst (v := nI 1) hx hb dX8_laysTurn_20 (by decide) ?_
        refine zi_sub (v := nI ((f_ 0) - 1)) hx hb dX8_laysTurn_21 (pk_sub (by omega)) ?_
        refine lv_iload_n hx hb dX8_laysTurn_22 rfl (lv_at hl 2 rfl) ?_
        refine zi_sub (v := nI (turF (f_ 0) i_)) hx hb dX8_laysTurn_23 (pk_sub (by omega)) ?_
        refine zi_iast hx hb hK hP hD hS 2 rfl (by omega) (by omega) dX8_laysTurn_24 (fun H locs hP hD hS => ?_)
        rw [upd_nIf] at hP hD
        have hP : va_P D vwCl [((bd 0), .inr (5, [.int (nI 0), .ref (bd 1), .ref (bd 2), .int (nI um_), .ref (bd 3), .ref (bd 4), .ref (bd 5), .int (nI ln_), .int (nI at_), .int (if iw_ = true then 1 else 0), .ref (bd 6), .ref (bd 7), .ref (bd 8), .ref (bd 9), .ref (bd 10), .ref (bd 11), .ref (bd 12), .ref (bd 13), .ref (bd 14)])), ((bd 1), .inl (cy 0, 130, .inl (nIf f_))), (ra_, .inl (cy 0, 16, .inl (nIf (uN1 (fil (turF (f_ 0)) rc_ i_) i_ (turF (f_ 0) i_)))))] H := hP
        have hD : va_D zA [((bd 0), .inr (5, [.int (nI 0), .ref (bd 1), .ref (bd 2), .int (nI um_), .ref (bd 3), .ref (bd 4), .ref (bd 5), .int (nI ln_), .int (nI at_), .int (if iw_ = true then 1 else 0), .ref (bd 6), .ref (bd 7), .ref (bd 8), .ref (bd 9), .ref (bd 10), .ref (bd 11), .ref (bd 12), .ref (bd 13), .ref (bd 14)])), ((bd 1), .inl (cy 0, 130, .inl (nIf f_))), (ra_, .inl (cy 0, 16, .inl (nIf (uN1 (fil (turF (f_ 0)) rc_ i_) i_ (turF (f_ 0) i_)))))] := hD
        have hP := zP_rowN hP 2 (fil (turF (f_ 0)) rc_ (i_ + 1)) rfl (fun j_ _ => congrFun (fil_s (turF (f_ 0)) rc_ i_) j_)
        have hP : va_P D vwCl [((bd 0), .inr (5, [.int (nI 0), .ref (bd 1), .ref (bd 2), .int (nI um_), .ref (bd 3), .ref (bd 4), .ref (bd 5), .int (nI ln_), .int (nI at_), .int (if iw_ = true then 1 else 0), .ref (bd 6), .ref (bd 7), .ref (bd 8), .ref (bd 9), .ref (bd 10), .ref (bd 11), .ref (bd 12), .ref (bd 13), .ref (bd 14)])), ((bd 1), .inl (cy 0, 130, .inl (nIf f_))), (ra_, .inl (cy 0, 16, .inl (nIf (fil (turF (f_ 0)) rc_ (i_ + 1)))))] H := hP
        have hD : va_D zA [((bd 0), .inr (5, [.int (nI 0), .ref (bd 1), .ref (bd 2), .int (nI um_), .ref (bd 3), .ref (bd 4), .ref (bd 5), .int (nI ln_), .int (nI at_), .int (if iw_ = true then 1 else 0), .ref (bd 6), .ref (bd 7), .ref (bd 8), .ref (bd 9), .ref (bd 10), .ref (bd 11), .ref (bd 12), .ref (bd 13), .ref (bd 14)])), ((bd 1), .inl (cy 0, 130, .inl (nIf f_))), (ra_, .inl (cy 0, 16, .inl (nIf (fil (turF (f_ 0)) rc_ (i_ + 1)))))] := hD.set (p := 2) rfl
        refine lv_iinc (v := nI (i_ + 1)) (lv' := [(2, .int (nI (i_ + 1))), (0, .ref (bd 0)), (1, .ref ra_)]) hx hb dX8_laysTurn_25 hl (k := 2) rfl (nI_1 _) (by decide) rfl (fun ls hl => ?_)
        refine lv_goto (tgt := 2) hx hb dX8_laysTurn_28 (by decide) ?_
        exact ih2 (i_ + 1) (by omega) (by omega) _ _ hP hD hS _ (lv_sub hl [1, 2, 0] rfl)
  exact L2 (f_ 0 - 0 + 1) 0 (Nat.zero_le _) (Nat.lt_succ_self _) _ _ hP hD hS _ (lv_sub hl [1, 2, 0] rfl)
abbrev w_X8_laysProduct : List Cond := Cond.code yX8_laysProduct cX8_laysProduct 5 none :: zAll
abbrev r_X8_laysProduct : Room := { frames := 0, cells := 0, slots := 0, locals := 0 }
theorem zd_X8_laysProduct : yX8_laysProduct.cls = RX8 ∧ yX8_laysProduct.cls ≠ "java/lang/invoke/MethodHandle" ∧ yX8_laysProduct.cls ≠ "java/lang/invoke/VarHandle" ∧ (parseMethodDescriptor yX8_laysProduct.desc).map (fun d => d.parameters.length) = some 3 := by decide +kernel
set_option maxHeartbeats 4000000 in
set_option maxRecDepth 100000 in
theorem c_X8_laysProduct (l : Launch) (D : va_G) (cy : Nat → ClassId) (sz : Nat) (bd : Nat → Nat) (um_ : Nat) (ln_ : Nat) (at_ : Nat) (iw_ : Bool) (f_ : Nat → Nat) (ra_ : Nat) (rc_ : Nat → Nat) (fa_ : Nat) (fc_ : Nat → Nat) (sa_ : Nat) (sc_ : Nat → Nat) (hN_ : f_ 0 ≤ 16) (hf : ∀ z_, z_ < f_ 0 → fc_ z_ < 16) : zWv l yX8_laysProduct w_X8_laysProduct r_X8_laysProduct D cy [((bd 0), .inr (5, [.int (nI 0), .ref (bd 1), .ref (bd 2), .int (nI um_), .ref (bd 3), .ref (bd 4), .ref (bd 5), .int (nI ln_), .int (nI at_), .int (if iw_ = true then 1 else 0), .ref (bd 6), .ref (bd 7), .ref (bd 8), .ref (bd 9), .ref (bd 10), .ref (bd 11), .ref (bd 12), .ref (bd 13), .ref (bd 14)])), ((bd 1), .inl (cy 0, 130, .inl (nIf f_))), (ra_, .inl (cy 0, 16, .inl (nIf rc_))), (fa_, .inl (cy 0, 16, .inl (nIf fc_))), (sa_, .inl (cy 0, 16, .inl (nIf sc_)))] sz [.ref (bd 0), .ref ra_, .ref fa_, .ref sa_] (fun u : Unit => True) (fun u : Unit => ([((bd 0), .inr (5, [.int (nI 0), .ref (bd 1), .ref (bd 2), .int (nI um_), .ref (bd 3), .ref (bd 4), .ref (bd 5), .int (nI ln_), .int (nI at_), .int (if iw_ = true then 1 else 0), .ref (bd 6), .ref (bd 7), .ref (bd 8), .ref (bd 9), .ref (bd 10), .ref (bd 11), .ref (bd 12), .ref (bd 13), .ref (bd 14)])), ((bd 1), .inl (cy 0, 130, .inl (nIf f_))), (ra_, .inl (cy 0, 16, .inl (nIf (fil (fun z_ => sc_ (fc_ z_)) rc_ (f_ 0))))), (fa_, .inl (cy 0, 16, .inl (nIf fc_))), (sa_, .inl (cy 0, 16, .inl (nIf sc_)))] : va_W)) 0 0 := by
  refine zOfV (cc := cX8_laysProduct) (maxL := 5) (by decide) rfl (Nat.le_of_ble_eq_true rfl) ?_
  intro zp ze zs zm za zb zme zc hx hb hml hts hown hP hK zA hD hA Q kr ls hl hin
  have hS : va_S zA zs.heap zs.heap [] := va_S.rf
  have hown : zs.vm.findClass RX8 = some zm.cls := hown
  have hl : lv_has ls 5 [(0, .ref (bd 0)), (1, .ref ra_), (2, .ref fa_), (3, .ref sa_)] := hl
  have hP := zP_rowN hP 2 (fil (fun z_ => sc_ (fc_ z_)) rc_ 0) rfl (fun j_ _ => congrFun (fil_0 (fun z_ => sc_ (fc_ z_)) rc_) j_)
  have hP : va_P D vwCl [((bd 0), .inr (5, [.int (nI 0), .ref (bd 1), .ref (bd 2), .int (nI um_), .ref (bd 3), .ref (bd 4), .ref (bd 5), .int (nI ln_), .int (nI at_), .int (if iw_ = true then 1 else 0), .ref (bd 6), .ref (bd 7), .ref (bd 8), .ref (bd 9), .ref (bd 10), .ref (bd 11), .ref (bd 12), .ref (bd 13), .ref (bd 14)])), ((bd 1), .inl (cy 0, 130, .inl (nIf f_))), (ra_, .inl (cy 0, 16, .inl (nIf (fil (fun z_ => sc_ (fc_ z_)) rc_ 0)))), (fa_, .inl (cy 0, 16, .inl (nIf fc_))), (sa_, .inl (cy 0, 16, .inl (nIf sc_)))] zs.heap := hP
  have hD : va_D zA [((bd 0), .inr (5, [.int (nI 0), .ref (bd 1), .ref (bd 2), .int (nI um_), .ref (bd 3), .ref (bd 4), .ref (bd 5), .int (nI ln_), .int (nI at_), .int (if iw_ = true then 1 else 0), .ref (bd 6), .ref (bd 7), .ref (bd 8), .ref (bd 9), .ref (bd 10), .ref (bd 11), .ref (bd 12), .ref (bd 13), .ref (bd 14)])), ((bd 1), .inl (cy 0, 130, .inl (nIf f_))), (ra_, .inl (cy 0, 16, .inl (nIf (fil (fun z_ => sc_ (fc_ z_)) rc_ 0)))), (fa_, .inl (cy 0, 16, .inl (nIf fc_))), (sa_, .inl (cy 0, 16, .inl (nIf sc_)))] := hD.set (p := 2) rfl
  refine lv_iconst (v := nI 0) hx hb dX8_laysProduct_0 (by decide) ?_
  refine lv_istore (lv' := [(4, .int (nI 0)), (0, .ref (bd 0)), (1, .ref ra_), (2, .ref fa_), (3, .ref sa_)]) hx hb dX8_laysProduct_1 hl (by decide) rfl (fun ls hl => ?_)
  have L3 : ∀ (kf_ : Nat) (i_ : Nat) (hi : i_ ≤ f_ 0), f_ 0 - i_ < kf_ → ∀ (H : Heap) (locs : List Loc), va_P D vwCl [((bd 0), .inr (5, [.int (nI 0), .ref (bd 1), .ref (bd 2), .int (nI um_), .ref (bd 3), .ref (bd 4), .ref (bd 5), .int (nI ln_), .int (nI at_), .int (if iw_ = true then 1 else 0), .ref (bd 6), .ref (bd 7), .ref (bd 8), .ref (bd 9), .ref (bd 10), .ref (bd 11), .ref (bd 12), .ref (bd 13), .ref (bd 14)])), ((bd 1), .inl (cy 0, 130, .inl (nIf f_))), (ra_, .inl (cy 0, 16, .inl (nIf (fil (fun z_ => sc_ (fc_ z_)) rc_ i_)))), (fa_, .inl (cy 0, 16, .inl (nIf fc_))), (sa_, .inl (cy 0, 16, .inl (nIf sc_)))] H → va_D zA [((bd 0), .inr (5, [.int (nI 0), .ref (bd 1), .ref (bd 2), .int (nI um_), .ref (bd 3), .ref (bd 4), .ref (bd 5), .int (nI ln_), .int (nI at_), .int (if iw_ = true then 1 else 0), .ref (bd 6), .ref (bd 7), .ref (bd 8), .ref (bd 9), .ref (bd 10), .ref (bd 11), .ref (bd 12), .ref (bd 13), .ref (bd 14)])), ((bd 1), .inl (cy 0, 130, .inl (nIf f_))), (ra_, .inl (cy 0, 16, .inl (nIf (fil (fun z_ => sc_ (fc_ z_)) rc_ i_)))), (fa_, .inl (cy 0, 16, .inl (nIf fc_))), (sa_, .inl (cy 0, 16, .inl (nIf sc_)))] → va_S zA zs.heap H locs → ∀ ls : Array Slot, lv_has ls 5 [(0, .ref (bd 0)), (1, .ref ra_), (2, .ref fa_), (3, .ref sa_), (4, .int (nI i_))] → W zp l ze r_X8_laysProduct zs zm za zb zme zc H locs 0 0 Q (F0 zm 3 ls []) := by
    intro kf_
    induction kf_ with
    | zero => intro i_ hi hk_; exact absurd hk_ (Nat.not_lt_zero _)
    | succ kf_ ih3 =>
      intro i_ hi hk_ H locs hP hD hS ls hl
      refine lv_iload hx hb dX8_laysProduct_3 (lv_at hl 4 rfl) ?_
      refine lv_aload_n hx hb dX8_laysProduct_5 rfl (lv_at hl 0 rfl) ?_
      refine va_get (D := D) (ci := 5) (v := .ref (bd 1)) (C := RX8) (T := TX8) (N := 19) hx hb hts (fun w h => List.mem_cons_of_mem _ (zinX8 w h)) hown hK.1 hP 0 rfl rfl 1 (by decide) (hts _ (List.mem_cons_of_mem _ zw_74)) (fun _ h9 => h9) rfl dX8_laysProduct_6 ?_
      refine lv_iconst (v := nI 0) hx hb dX8_laysProduct_9 (by decide) ?_
      refine zi_iald (v := nI (f_ 0)) hx hb hK hP 1 rfl (by omega) (by omega) rfl dX8_laysProduct_10 ?_
      refine zb_ge (a := i_) (b := f_ 0) (tgt := 30) hx hb dX8_laysProduct_11 (by decide) (by omega) (by omega) (fun c11 => ?_) (fun c11 => ?_)
      · skip
        have hP := zP_rowN hP 2 (fil (fun z_ => sc_ (fc_ z_)) rc_ (f_ 0)) rfl (fun j_ _ => by rw [show i_ = f_ 0 by omega])
        have hP : va_P D vwCl [((bd 0), .inr (5, [.int (nI 0), .ref (bd 1), .ref (bd 2), .int (nI um_), .ref (bd 3), .ref (bd 4), .ref (bd 5), .int (nI ln_), .int (nI at_), .int (if iw_ = true then 1 else 0), .ref (bd 6), .ref (bd 7), .ref (bd 8), .ref (bd 9), .ref (bd 10), .ref (bd 11), .ref (bd 12), .ref (bd 13), .ref (bd 14)])), ((bd 1), .inl (cy 0, 130, .inl (nIf f_))), (ra_, .inl (cy 0, 16, .inl (nIf (fil (fun z_ => sc_ (fc_ z_)) rc_ (f_ 0))))), (fa_, .inl (cy 0, 16, .inl (nIf fc_))), (sa_, .inl (cy 0, 16, .inl (nIf sc_)))] H := hP
        have hD : va_D zA [((bd 0), .inr (5, [.int (nI 0), .ref (bd 1), .ref (bd 2), .int (nI um_), .ref (bd 3), .ref (bd 4), .ref (bd 5), .int (nI ln_), .int (nI at_), .int (if iw_ = true then 1 else 0), .ref (bd 6), .ref (bd 7), .ref (bd 8), .ref (bd 9), .ref (bd 10), .ref (bd 11), .ref (bd 12), .ref (bd 13), .ref (bd 14)])), ((bd 1), .inl (cy 0, 130, .inl (nIf f_))), (ra_, .inl (cy 0, 16, .inl (nIf (fil (fun z_ => sc_ (fc_ z_)) rc_ (f_ 0))))), (fa_, .inl (cy 0, 16, .inl (nIf fc_))), (sa_, .inl (cy 0, 16, .inl (nIf sc_)))] := hD.set (p := 2) rfl
        exact kr () _ _ _ _ dX8_laysProduct_30 trivial hP hD hS
      · skip
        refine lv_aload_n hx hb dX8_laysProduct_14 rfl (lv_at hl 1 rfl) ?_
        refine lv_iload hx hb dX8_laysProduct_15 (lv_at hl 4 rfl) ?_
        refine lv_aload_n hx hb dX8_laysProduct_17 rfl (lv_at hl 3 rfl) ?_
        refine lv_aload_n hx hb dX8_laysProduct_18 rfl (lv_at hl 2 rfl) ?_
        refine lv_iload hx hb dX8_laysProduct_19 (lv_at hl 4 rfl) ?_
        refine zi_iald (v := nI (fc_ i_)) hx hb hK hP 3 rfl (by omega) (by omega) rfl dX8_laysProduct_21 ?_
        have hf22 := hf i_ (by omega)
        refine zi_iald (v := nI (sc_ (fc_ i_))) hx hb hK hP 4 rfl (by omega) (by omega) rfl dX8_laysProduct_22 ?_
        refine zi_iast hx hb hK hP hD hS 2 rfl (by omega) (by omega) dX8_laysProduct_23 (fun H locs hP hD hS => ?_)
        rw [upd_nIf] at hP hD
        have hP : va_P D vwCl [((bd 0), .inr (5, [.int (nI 0), .ref (bd 1), .ref (bd 2), .int (nI um_), .ref (bd 3), .ref (bd 4), .ref (bd 5), .int (nI ln_), .int (nI at_), .int (if iw_ = true then 1 else 0), .ref (bd 6), .ref (bd 7), .ref (bd 8), .ref (bd 9), .ref (bd 10), .ref (bd 11), .ref (bd 12), .ref (bd 13), .ref (bd 14)])), ((bd 1), .inl (cy 0, 130, .inl (nIf f_))), (ra_, .inl (cy 0, 16, .inl (nIf (uN1 (fil (fun z_ => sc_ (fc_ z_)) rc_ i_) i_ (sc_ (fc_ i_)))))), (fa_, .inl (cy 0, 16, .inl (nIf fc_))), (sa_, .inl (cy 0, 16, .inl (nIf sc_)))] H := hP
        have hD : va_D zA [((bd 0), .inr (5, [.int (nI 0), .ref (bd 1), .ref (bd 2), .int (nI um_), .ref (bd 3), .ref (bd 4), .ref (bd 5), .int (nI ln_), .int (nI at_), .int (if iw_ = true then 1 else 0), .ref (bd 6), .ref (bd 7), .ref (bd 8), .ref (bd 9), .ref (bd 10), .ref (bd 11), .ref (bd 12), .ref (bd 13), .ref (bd 14)])), ((bd 1), .inl (cy 0, 130, .inl (nIf f_))), (ra_, .inl (cy 0, 16, .inl (nIf (uN1 (fil (fun z_ => sc_ (fc_ z_)) rc_ i_) i_ (sc_ (fc_ i_)))))), (fa_, .inl (cy 0, 16, .inl (nIf fc_))), (sa_, .inl (cy 0, 16, .inl (nIf sc_)))] := hD
        have hP := zP_rowN hP 2 (fil (fun z_ => sc_ (fc_ z_)) rc_ (i_ + 1)) rfl (fun j_ _ => congrFun (fil_s (fun z_ => sc_ (fc_ z_)) rc_ i_) j_)
        have hP : va_P D vwCl [((bd 0), .inr (5, [.int (nI 0), .ref (bd 1), .ref (bd 2), .int (nI um_), .ref (bd 3), .ref (bd 4), .ref (bd 5), .int (nI ln_), .int (nI at_), .int (if iw_ = true then 1 else 0), .ref (bd 6), .ref (bd 7), .ref (bd 8), .ref (bd 9), .ref (bd 10), .ref (bd 11), .ref (bd 12), .ref (bd 13), .ref (bd 14)])), ((bd 1), .inl (cy 0, 130, .inl (nIf f_))), (ra_, .inl (cy 0, 16, .inl (nIf (fil (fun z_ => sc_ (fc_ z_)) rc_ (i_ + 1))))), (fa_, .inl (cy 0, 16, .inl (nIf fc_))), (sa_, .inl (cy 0, 16, .inl (nIf sc_)))] H := hP
        have hD : va_D zA [((bd 0), .inr (5, [.int (nI 0), .ref (bd 1), .ref (bd 2), .int (nI um_), .ref (bd 3), .ref (bd 4), .ref (bd 5), .int (nI ln_), .int (nI at_), .int (if iw_ = true then 1 else 0), .ref (bd 6), .ref (bd 7), .ref (bd 8), .ref (bd 9), .ref (bd 10), .ref (bd 11), .ref (bd 12), .ref (bd 13), .ref (bd 14)])), ((bd 1), .inl (cy 0, 130, .inl (nIf f_))), (ra_, .inl (cy 0, 16, .inl (nIf (fil (fun z_ => sc_ (fc_ z_)) rc_ (i_ + 1))))), (fa_, .inl (cy 0, 16, .inl (nIf fc_))), (sa_, .inl (cy 0, 16, .inl (nIf sc_)))] := hD.set (p := 2) rfl
        refine lv_iinc (v := nI (i_ + 1)) (lv' := [(4, .int (nI (i_ + 1))), (0, .ref (bd 0)), (1, .ref ra_), (2, .ref fa_), (3, .ref sa_)]) hx hb dX8_laysProduct_24 hl (k := 4) rfl (nI_1 _) (by decide) rfl (fun ls hl => ?_)
        refine lv_goto (tgt := 3) hx hb dX8_laysProduct_27 (by decide) ?_
        exact ih3 (i_ + 1) (by omega) (by omega) _ _ hP hD hS _ (lv_sub hl [1, 2, 3, 4, 0] rfl)
  exact L3 (f_ 0 - 0 + 1) 0 (Nat.zero_le _) (Nat.lt_succ_self _) _ _ hP hD hS _ (lv_sub hl [1, 2, 3, 4, 0] rfl)
abbrev w_X8_laysInverse : List Cond := Cond.code yX8_laysInverse cX8_laysInverse 4 none :: zAll
abbrev r_X8_laysInverse : Room := { frames := 0, cells := 0, slots := 0, locals := 0 }
theorem zd_X8_laysInverse : yX8_laysInverse.cls = RX8 ∧ yX8_laysInverse.cls ≠ "java/lang/invoke/MethodHandle" ∧ yX8_laysInverse.cls ≠ "java/lang/invoke/VarHandle" ∧ (parseMethodDescriptor yX8_laysInverse.desc).map (fun d => d.parameters.length) = some 2 := by decide +kernel
set_option maxHeartbeats 4000000 in
set_option maxRecDepth 100000 in
theorem c_X8_laysInverse (l : Launch) (D : va_G) (cy : Nat → ClassId) (sz : Nat) (bd : Nat → Nat) (um_ : Nat) (ln_ : Nat) (at_ : Nat) (iw_ : Bool) (f_ : Nat → Nat) (ra_ : Nat) (rc_ : Nat → Nat) (oa_ : Nat) (oc_ : Nat → Nat) (hN_ : f_ 0 ≤ 16) (ho : ∀ z_, z_ < f_ 0 → oc_ z_ < 16) (hoi : ∀ y_ z_, y_ < f_ 0 → z_ < f_ 0 → oc_ y_ = oc_ z_ → y_ = z_) : zWv l yX8_laysInverse w_X8_laysInverse r_X8_laysInverse D cy [((bd 0), .inr (5, [.int (nI 0), .ref (bd 1), .ref (bd 2), .int (nI um_), .ref (bd 3), .ref (bd 4), .ref (bd 5), .int (nI ln_), .int (nI at_), .int (if iw_ = true then 1 else 0), .ref (bd 6), .ref (bd 7), .ref (bd 8), .ref (bd 9), .ref (bd 10), .ref (bd 11), .ref (bd 12), .ref (bd 13), .ref (bd 14)])), ((bd 1), .inl (cy 0, 130, .inl (nIf f_))), (ra_, .inl (cy 0, 16, .inl (nIf rc_))), (oa_, .inl (cy 0, 16, .inl (nIf oc_)))] sz [.ref (bd 0), .ref ra_, .ref oa_] (fun u : (Nat → Nat) => ∀ z_, z_ < f_ 0 → u (oc_ z_) = z_) (fun u : (Nat → Nat) => ([((bd 0), .inr (5, [.int (nI 0), .ref (bd 1), .ref (bd 2), .int (nI um_), .ref (bd 3), .ref (bd 4), .ref (bd 5), .int (nI ln_), .int (nI at_), .int (if iw_ = true then 1 else 0), .ref (bd 6), .ref (bd 7), .ref (bd 8), .ref (bd 9), .ref (bd 10), .ref (bd 11), .ref (bd 12), .ref (bd 13), .ref (bd 14)])), ((bd 1), .inl (cy 0, 130, .inl (nIf f_))), (ra_, .inl (cy 0, 16, .inl (nIf u))), (oa_, .inl (cy 0, 16, .inl (nIf oc_)))] : va_W)) 0 0 := by
  refine zOfV (cc := cX8_laysInverse) (maxL := 4) (by decide) rfl (Nat.le_of_ble_eq_true rfl) ?_
  intro zp ze zs zm za zb zme zc hx hb hml hts hown hP hK zA hD hA Q kr ls hl hin
  have hS : va_S zA zs.heap zs.heap [] := va_S.rf
  have hown : zs.vm.findClass RX8 = some zm.cls := hown
  have hl : lv_has ls 4 [(0, .ref (bd 0)), (1, .ref ra_), (2, .ref oa_)] := hl
  refine lv_iconst (v := nI 0) hx hb dX8_laysInverse_0 (by decide) ?_
  refine lv_istore_n (lv' := [(3, .int (nI 0)), (0, .ref (bd 0)), (1, .ref ra_), (2, .ref oa_)]) hx hb dX8_laysInverse_1 rfl hl (by decide) rfl (fun ls hl => ?_)
  have L2 : ∀ (kf_ : Nat) (i_ : Nat) (w_ : Nat → Nat) (hi : i_ ≤ f_ 0) (hw_ : ∀ z_, z_ < i_ → w_ (oc_ z_) = z_), f_ 0 - i_ < kf_ → ∀ (H : Heap) (locs : List Loc), va_P D vwCl [((bd 0), .inr (5, [.int (nI 0), .ref (bd 1), .ref (bd 2), .int (nI um_), .ref (bd 3), .ref (bd 4), .ref (bd 5), .int (nI ln_), .int (nI at_), .int (if iw_ = true then 1 else 0), .ref (bd 6), .ref (bd 7), .ref (bd 8), .ref (bd 9), .ref (bd 10), .ref (bd 11), .ref (bd 12), .ref (bd 13), .ref (bd 14)])), ((bd 1), .inl (cy 0, 130, .inl (nIf f_))), (ra_, .inl (cy 0, 16, .inl (nIf w_))), (oa_, .inl (cy 0, 16, .inl (nIf oc_)))] H → va_D zA [((bd 0), .inr (5, [.int (nI 0), .ref (bd 1), .ref (bd 2), .int (nI um_), .ref (bd 3), .ref (bd 4), .ref (bd 5), .int (nI ln_), .int (nI at_), .int (if iw_ = true then 1 else 0), .ref (bd 6), .ref (bd 7), .ref (bd 8), .ref (bd 9), .ref (bd 10), .ref (bd 11), .ref (bd 12), .ref (bd 13), .ref (bd 14)])), ((bd 1), .inl (cy 0, 130, .inl (nIf f_))), (ra_, .inl (cy 0, 16, .inl (nIf w_))), (oa_, .inl (cy 0, 16, .inl (nIf oc_)))] → va_S zA zs.heap H locs → ∀ ls : Array Slot, lv_has ls 4 [(0, .ref (bd 0)), (1, .ref ra_), (2, .ref oa_), (3, .int (nI i_))] → W zp l ze r_X8_laysInverse zs zm za zb zme zc H locs 0 0 Q (F0 zm 2 ls []) := by
    intro kf_
    induction kf_ with
    | zero => intro i_ w_ hi hw_ hk_; exact absurd hk_ (Nat.not_lt_zero _)
    | succ kf_ ih2 =>
      intro i_ w_ hi hw_ hk_ H locs hP hD hS ls hl
      refine lv_iload_n hx hb dX8_laysInverse_2 rfl (lv_at hl 3 rfl) ?_
      refine lv_aload_n hx hb dX8_laysInverse_3 rfl (lv_at hl 0 rfl) ?_
      refine va_get (D := D) (ci := 5) (v := .ref (bd 1)) (C := RX8) (T := TX8) (N := 19) hx hb hts (fun w h => List.mem_cons_of_mem _ (zinX8 w h)) hown hK.1 hP 0 rfl rfl 1 (by decide) (hts _ (List.mem_cons_of_mem _ zw_74)) (fun _ h9 => h9) rfl dX8_laysInverse_4 ?_
      refine lv_iconst (v := nI 0) hx hb dX8_laysInverse_7 (by decide) ?_
      refine zi_iald (v := nI (f_ 0)) hx hb hK hP 1 rfl (by omega) (by omega) rfl dX8_laysInverse_8 ?_
      refine zb_ge (a := i_) (b := f_ 0) (tgt := 24) hx hb dX8_laysInverse_9 (by decide) (by omega) (by omega) (fun c9 => ?_) (fun c9 => ?_)
      · skip
        exact kr w_ _ _ _ _ dX8_laysInverse_24 (fun z_ hz_ => hw_ z_ (by omega)) hP hD hS
      · skip
        refine lv_aload_n hx hb dX8_laysInverse_12 rfl (lv_at hl 1 rfl) ?_
        refine lv_aload_n hx hb dX8_laysInverse_13 rfl (lv_at hl 2 rfl) ?_
        refine lv_iload_n hx hb dX8_laysInverse_14 rfl (lv_at hl 3 rfl) ?_
        refine zi_iald (v := nI (oc_ i_)) hx hb hK hP 3 rfl (by omega) (by omega) rfl dX8_laysInverse_15 ?_
        have ho16 := ho i_ (by omega)
        refine lv_iload_n hx hb dX8_laysInverse_16 rfl (lv_at hl 3 rfl) ?_
        refine zi_iast hx hb hK hP hD hS 2 rfl (by omega) (by omega) dX8_laysInverse_17 (fun H locs hP hD hS => ?_)
        rw [upd_nIf] at hP hD
        have hP : va_P D vwCl [((bd 0), .inr (5, [.int (nI 0), .ref (bd 1), .ref (bd 2), .int (nI um_), .ref (bd 3), .ref (bd 4), .ref (bd 5), .int (nI ln_), .int (nI at_), .int (if iw_ = true then 1 else 0), .ref (bd 6), .ref (bd 7), .ref (bd 8), .ref (bd 9), .ref (bd 10), .ref (bd 11), .ref (bd 12), .ref (bd 13), .ref (bd 14)])), ((bd 1), .inl (cy 0, 130, .inl (nIf f_))), (ra_, .inl (cy 0, 16, .inl (nIf (uN1 w_ (oc_ i_) i_)))), (oa_, .inl (cy 0, 16, .inl (nIf oc_)))] H := hP
        have hD : va_D zA [((bd 0), .inr (5, [.int (nI 0), .ref (bd 1), .ref (bd 2), .int (nI um_), .ref (bd 3), .ref (bd 4), .ref (bd 5), .int (nI ln_), .int (nI at_), .int (if iw_ = true then 1 else 0), .ref (bd 6), .ref (bd 7), .ref (bd 8), .ref (bd 9), .ref (bd 10), .ref (bd 11), .ref (bd 12), .ref (bd 13), .ref (bd 14)])), ((bd 1), .inl (cy 0, 130, .inl (nIf f_))), (ra_, .inl (cy 0, 16, .inl (nIf (uN1 w_ (oc_ i_) i_)))), (oa_, .inl (cy 0, 16, .inl (nIf oc_)))] := hD
        refine lv_iinc (v := nI (i_ + 1)) (lv' := [(3, .int (nI (i_ + 1))), (0, .ref (bd 0)), (1, .ref ra_), (2, .ref oa_)]) hx hb dX8_laysInverse_18 hl (k := 3) rfl (nI_1 _) (by decide) rfl (fun ls hl => ?_)
        refine lv_goto (tgt := 2) hx hb dX8_laysInverse_21 (by decide) ?_
        exact ih2 (i_ + 1) (uN1 w_ (oc_ i_) i_) (by omega) (fun z_ hz_ => by by_cases q_ : z_ = i_; subst q_; exact uN1_s _ _ _; rw [uN1_n _ (fun e_ => q_ (hoi _ _ (by omega) (by omega) e_))]; exact hw_ z_ (by omega)) (by omega) _ _ hP hD hS _ (lv_sub hl [1, 2, 3, 0] rfl)
  exact L2 (f_ 0 - 0 + 1) 0 rc_ (Nat.zero_le _) (fun z_ hz_ => absurd hz_ (Nat.not_lt_zero _)) (Nat.lt_succ_self _) _ _ hP hD hS _ (lv_sub hl [1, 2, 3, 0] rfl)
abbrev w_X8_areAlike : List Cond := Cond.code yX8_areAlike cX8_areAlike 5 (some .boolean) :: zAll
abbrev r_X8_areAlike : Room := { frames := 0, cells := 0, slots := 0, locals := 0 }
theorem zd_X8_areAlike : yX8_areAlike.cls = RX8 ∧ yX8_areAlike.cls ≠ "java/lang/invoke/MethodHandle" ∧ yX8_areAlike.cls ≠ "java/lang/invoke/VarHandle" ∧ (parseMethodDescriptor yX8_areAlike.desc).map (fun d => d.parameters.length) = some 2 := by decide +kernel
set_option maxHeartbeats 4000000 in
set_option maxRecDepth 100000 in
theorem c_X8_areAlike (l : Launch) (D : va_G) (cy : Nat → ClassId) (bd : Nat → Nat) (um_ : Nat) (ln_ : Nat) (at_ : Nat) (iw_ : Bool) (f_ : Nat → Nat) (ra_ : Nat) (rc_ : Nat → Nat) (oa_ : Nat) (oc_ : Nat → Nat) (hN_ : f_ 0 ≤ 16) (hrb : ∀ z_, z_ < f_ 0 → rc_ z_ < 2 ^ 31 ∧ oc_ z_ < 2 ^ 31) : zMi l yX8_areAlike w_X8_areAlike r_X8_areAlike D cy [((bd 0), .inr (5, [.int (nI 0), .ref (bd 1), .ref (bd 2), .int (nI um_), .ref (bd 3), .ref (bd 4), .ref (bd 5), .int (nI ln_), .int (nI at_), .int (if iw_ = true then 1 else 0), .ref (bd 6), .ref (bd 7), .ref (bd 8), .ref (bd 9), .ref (bd 10), .ref (bd 11), .ref (bd 12), .ref (bd 13), .ref (bd 14)])), ((bd 1), .inl (cy 0, 130, .inl (nIf f_))), (ra_, .inl (cy 0, 16, .inl (nIf rc_))), (oa_, .inl (cy 0, 16, .inl (nIf oc_)))] [.ref (bd 0), .ref ra_, .ref oa_] (fun r_ => r_ = (if chkA (alkF rc_ oc_) (f_ 0) = true then 1 else 0)) := by
  refine zOfR (cc := cX8_areAlike) (maxL := 5) (ty := .boolean) (by decide) rfl (Nat.le_of_ble_eq_true rfl) ?_
  intro zp ze zs zm za zb zme zc hx hb hml hts hown hP hK Q kr ls hl
  have hown : zs.vm.findClass RX8 = some zm.cls := hown
  have hl : lv_has ls 5 [(0, .ref (bd 0)), (1, .ref ra_), (2, .ref oa_)] := hl
  refine lv_iconst (v := nI 1) hx hb dX8_areAlike_0 (by decide) ?_
  refine zi_top (v := if chkA (alkF rc_ oc_) 0 = true then 1 else 0) rfl ?_
  refine lv_istore_n (lv' := [(3, .int (if chkA (alkF rc_ oc_) 0 = true then 1 else 0)), (0, .ref (bd 0)), (1, .ref ra_), (2, .ref oa_)]) hx hb dX8_areAlike_1 rfl hl (by decide) rfl (fun ls hl => ?_)
  refine lv_iconst (v := nI 0) hx hb dX8_areAlike_2 (by decide) ?_
  refine lv_istore (lv' := [(4, .int (nI 0)), (3, .int (if chkA (alkF rc_ oc_) 0 = true then 1 else 0)), (0, .ref (bd 0)), (1, .ref ra_), (2, .ref oa_)]) hx hb dX8_areAlike_3 hl (by decide) rfl (fun ls hl => ?_)
  have L5 : ∀ (kf_ : Nat) (i_ : Nat) (hi : i_ ≤ f_ 0), f_ 0 - i_ < kf_ → ∀ ls : Array Slot, lv_has ls 5 [(0, .ref (bd 0)), (1, .ref ra_), (2, .ref oa_), (3, .int (if chkA (alkF rc_ oc_) i_ = true then 1 else 0)), (4, .int (nI i_))] → W zp l ze r_X8_areAlike zs zm za zb zme zc zs.heap [] 0 0 Q (F0 zm 5 ls []) := by
    intro kf_
    induction kf_ with
    | zero => intro i_ hi hk_; exact absurd hk_ (Nat.not_lt_zero _)
    | succ kf_ ih5 =>
      intro i_ hi hk_ ls hl
      refine lv_iload hx hb dX8_areAlike_5 (lv_at hl 4 rfl) ?_
      refine lv_aload_n hx hb dX8_areAlike_7 rfl (lv_at hl 0 rfl) ?_
      refine va_get (D := D) (ci := 5) (v := .ref (bd 1)) (C := RX8) (T := TX8) (N := 19) hx hb hts (fun w h => List.mem_cons_of_mem _ (zinX8 w h)) hown hK.1 hP 0 rfl rfl 1 (by decide) (hts _ (List.mem_cons_of_mem _ zw_74)) (fun _ h9 => h9) rfl dX8_areAlike_8 ?_
      refine lv_iconst (v := nI 0) hx hb dX8_areAlike_11 (by decide) ?_
      refine zi_iald (v := nI (f_ 0)) hx hb hK hP 1 rfl (by omega) (by omega) rfl dX8_areAlike_12 ?_
      refine zb_ge (a := i_) (b := f_ 0) (tgt := 43) hx hb dX8_areAlike_13 (by decide) (by omega) (by omega) (fun c13 => ?_) (fun c13 => ?_)
      · skip
        refine lv_iload_n hx hb dX8_areAlike_43 rfl (lv_at hl 3 rfl) ?_
        exact kr _ _ _ dX8_areAlike_44 (zz_narb _) (by rw [show i_ = f_ 0 by omega])
      · skip
        refine lv_iload_n hx hb dX8_areAlike_16 rfl (lv_at hl 3 rfl) ?_
        refine zq_eq (tgt := 35) hx hb dX8_areAlike_17 (by decide) (fun c17 => ?_) (fun c17 => ?_)
        · skip
          refine lv_iconst (v := nI 0) hx hb dX8_areAlike_35 (by decide) ?_
          refine zi_top (v := if chkA (alkF rc_ oc_) (i_ + 1) = true then 1 else 0) (chkA_0a c17) ?_
          refine lv_istore_n (lv' := [(3, .int (if chkA (alkF rc_ oc_) (i_ + 1) = true then 1 else 0)), (0, .ref (bd 0)), (1, .ref ra_), (2, .ref oa_), (4, .int (nI i_))]) hx hb dX8_areAlike_36 rfl hl (by decide) rfl (fun ls hl => ?_)
          refine lv_iinc (v := nI (i_ + 1)) (lv' := [(4, .int (nI (i_ + 1))), (3, .int (if chkA (alkF rc_ oc_) (i_ + 1) = true then 1 else 0)), (0, .ref (bd 0)), (1, .ref ra_), (2, .ref oa_)]) hx hb dX8_areAlike_37 hl (k := 4) rfl (nI_1 _) (by decide) rfl (fun ls hl => ?_)
          refine lv_goto (tgt := 5) hx hb dX8_areAlike_40 (by decide) ?_
          exact ih5 (i_ + 1) (by omega) (by omega) _ (lv_sub hl [2, 3, 4, 1, 0] rfl)
        · skip
          refine lv_aload_n hx hb dX8_areAlike_20 rfl (lv_at hl 1 rfl) ?_
          refine lv_iload hx hb dX8_areAlike_21 (lv_at hl 4 rfl) ?_
          refine zi_iald (v := nI (rc_ i_)) hx hb hK hP 2 rfl (by omega) (by omega) rfl dX8_areAlike_23 ?_
          refine lv_aload_n hx hb dX8_areAlike_24 rfl (lv_at hl 2 rfl) ?_
          refine lv_iload hx hb dX8_areAlike_25 (lv_at hl 4 rfl) ?_
          refine zi_iald (v := nI (oc_ i_)) hx hb hK hP 3 rfl (by omega) (by omega) rfl dX8_areAlike_27 ?_
          have hb28 := hrb i_ (by omega)
          refine zb_ne (a := rc_ i_) (b := oc_ i_) (tgt := 35) hx hb dX8_areAlike_28 (by decide) (by omega) (by omega) (fun c28 => ?_) (fun c28 => ?_)
          · skip
            refine lv_iconst (v := nI 0) hx hb dX8_areAlike_35 (by decide) ?_
            refine zi_top (v := if chkA (alkF rc_ oc_) (i_ + 1) = true then 1 else 0) (chkA_0b (by unfold alkF; simp [c28])) ?_
            refine lv_istore_n (lv' := [(3, .int (if chkA (alkF rc_ oc_) (i_ + 1) = true then 1 else 0)), (0, .ref (bd 0)), (1, .ref ra_), (2, .ref oa_), (4, .int (nI i_))]) hx hb dX8_areAlike_36 rfl hl (by decide) rfl (fun ls hl => ?_)
            refine lv_iinc (v := nI (i_ + 1)) (lv' := [(4, .int (nI (i_ + 1))), (3, .int (if chkA (alkF rc_ oc_) (i_ + 1) = true then 1 else 0)), (0, .ref (bd 0)), (1, .ref ra_), (2, .ref oa_)]) hx hb dX8_areAlike_37 hl (k := 4) rfl (nI_1 _) (by decide) rfl (fun ls hl => ?_)
            refine lv_goto (tgt := 5) hx hb dX8_areAlike_40 (by decide) ?_
            exact ih5 (i_ + 1) (by omega) (by omega) _ (lv_sub hl [2, 3, 4, 1, 0] rfl)
          · skip
            refine lv_iconst (v := nI 1) hx hb dX8_areAlike_31 (by decide) ?_
            refine lv_goto (tgt := 36) hx hb dX8_areAlike_32 (by decide) ?_
            refine zi_top (v := if chkA (alkF rc_ oc_) (i_ + 1) = true then 1 else 0) (chkA_1 c17 (by unfold alkF; simp [c28])) ?_
            refine lv_istore_n (lv' := [(3, .int (if chkA (alkF rc_ oc_) (i_ + 1) = true then 1 else 0)), (0, .ref (bd 0)), (1, .ref ra_), (2, .ref oa_), (4, .int (nI i_))]) hx hb dX8_areAlike_36 rfl hl (by decide) rfl (fun ls hl => ?_)
            refine lv_iinc (v := nI (i_ + 1)) (lv' := [(4, .int (nI (i_ + 1))), (3, .int (if chkA (alkF rc_ oc_) (i_ + 1) = true then 1 else 0)), (0, .ref (bd 0)), (1, .ref ra_), (2, .ref oa_)]) hx hb dX8_areAlike_37 hl (k := 4) rfl (nI_1 _) (by decide) rfl (fun ls hl => ?_)
            refine lv_goto (tgt := 5) hx hb dX8_areAlike_40 (by decide) ?_
            exact ih5 (i_ + 1) (by omega) (by omega) _ (lv_sub hl [2, 3, 4, 1, 0] rfl)
  exact L5 (f_ 0 - 0 + 1) 0 (Nat.zero_le _) (Nat.lt_succ_self _) _ (lv_sub hl [2, 3, 4, 1, 0] rfl)
abbrev w_X8_doCommute : List Cond := Cond.code yX8_doCommute cX8_doCommute 5 (some .boolean) :: zAll
abbrev r_X8_doCommute : Room := { frames := 0, cells := 0, slots := 0, locals := 0 }
theorem zd_X8_doCommute : yX8_doCommute.cls = RX8 ∧ yX8_doCommute.cls ≠ "java/lang/invoke/MethodHandle" ∧ yX8_doCommute.cls ≠ "java/lang/invoke/VarHandle" ∧ (parseMethodDescriptor yX8_doCommute.desc).map (fun d => d.parameters.length) = some 2 := by decide +kernel
set_option maxHeartbeats 4000000 in
set_option maxRecDepth 100000 in
theorem c_X8_doCommute (l : Launch) (D : va_G) (cy : Nat → ClassId) (bd : Nat → Nat) (um_ : Nat) (ln_ : Nat) (at_ : Nat) (iw_ : Bool) (f_ : Nat → Nat) (ra_ : Nat) (rc_ : Nat → Nat) (oa_ : Nat) (oc_ : Nat → Nat) (hN_ : f_ 0 ≤ 16) (hrb : ∀ z_, z_ < f_ 0 → rc_ z_ < 2 ^ 31 ∧ oc_ z_ < 2 ^ 31) (hrl : ∀ z_, z_ < f_ 0 → rc_ z_ < f_ 0 ∧ oc_ z_ < f_ 0) : zMi l yX8_doCommute w_X8_doCommute r_X8_doCommute D cy [((bd 0), .inr (5, [.int (nI 0), .ref (bd 1), .ref (bd 2), .int (nI um_), .ref (bd 3), .ref (bd 4), .ref (bd 5), .int (nI ln_), .int (nI at_), .int (if iw_ = true then 1 else 0), .ref (bd 6), .ref (bd 7), .ref (bd 8), .ref (bd 9), .ref (bd 10), .ref (bd 11), .ref (bd 12), .ref (bd 13), .ref (bd 14)])), ((bd 1), .inl (cy 0, 130, .inl (nIf f_))), (ra_, .inl (cy 0, 16, .inl (nIf rc_))), (oa_, .inl (cy 0, 16, .inl (nIf oc_)))] [.ref (bd 0), .ref ra_, .ref oa_] (fun r_ => r_ = (if chkA (comF rc_ oc_) (f_ 0) = true then 1 else 0)) := by
  refine zOfR (cc := cX8_doCommute) (maxL := 5) (ty := .boolean) (by decide) rfl (Nat.le_of_ble_eq_true rfl) ?_
  intro zp ze zs zm za zb zme zc hx hb hml hts hown hP hK Q kr ls hl
  have hown : zs.vm.findClass RX8 = some zm.cls := hown
  have hl : lv_has ls 5 [(0, .ref (bd 0)), (1, .ref ra_), (2, .ref oa_)] := hl
  refine lv_iconst (v := nI 1) hx hb dX8_doCommute_0 (by decide) ?_
  refine zi_top (v := if chkA (comF rc_ oc_) 0 = true then 1 else 0) rfl ?_
  refine lv_istore_n (lv' := [(3, .int (if chkA (comF rc_ oc_) 0 = true then 1 else 0)), (0, .ref (bd 0)), (1, .ref ra_), (2, .ref oa_)]) hx hb dX8_doCommute_1 rfl hl (by decide) rfl (fun ls hl => ?_)
  refine lv_iconst (v := nI 0) hx hb dX8_doCommute_2 (by decide) ?_
  refine lv_istore (lv' := [(4, .int (nI 0)), (3, .int (if chkA (comF rc_ oc_) 0 = true then 1 else 0)), (0, .ref (bd 0)), (1, .ref ra_), (2, .ref oa_)]) hx hb dX8_doCommute_3 hl (by decide) rfl (fun ls hl => ?_)
  have L5 : ∀ (kf_ : Nat) (i_ : Nat) (hi : i_ ≤ f_ 0), f_ 0 - i_ < kf_ → ∀ ls : Array Slot, lv_has ls 5 [(0, .ref (bd 0)), (1, .ref ra_), (2, .ref oa_), (3, .int (if chkA (comF rc_ oc_) i_ = true then 1 else 0)), (4, .int (nI i_))] → W zp l ze r_X8_doCommute zs zm za zb zme zc zs.heap [] 0 0 Q (F0 zm 5 ls []) := by
    intro kf_
    induction kf_ with
    | zero => intro i_ hi hk_; exact absurd hk_ (Nat.not_lt_zero _)
    | succ kf_ ih5 =>
      intro i_ hi hk_ ls hl
      refine lv_iload hx hb dX8_doCommute_5 (lv_at hl 4 rfl) ?_
      refine lv_aload_n hx hb dX8_doCommute_7 rfl (lv_at hl 0 rfl) ?_
      refine va_get (D := D) (ci := 5) (v := .ref (bd 1)) (C := RX8) (T := TX8) (N := 19) hx hb hts (fun w h => List.mem_cons_of_mem _ (zinX8 w h)) hown hK.1 hP 0 rfl rfl 1 (by decide) (hts _ (List.mem_cons_of_mem _ zw_74)) (fun _ h9 => h9) rfl dX8_doCommute_8 ?_
      refine lv_iconst (v := nI 0) hx hb dX8_doCommute_11 (by decide) ?_
      refine zi_iald (v := nI (f_ 0)) hx hb hK hP 1 rfl (by omega) (by omega) rfl dX8_doCommute_12 ?_
      refine zb_ge (a := i_) (b := f_ 0) (tgt := 47) hx hb dX8_doCommute_13 (by decide) (by omega) (by omega) (fun c13 => ?_) (fun c13 => ?_)
      · skip
        refine lv_iload_n hx hb dX8_doCommute_47 rfl (lv_at hl 3 rfl) ?_
        exact kr _ _ _ dX8_doCommute_48 (zz_narb _) (by rw [show i_ = f_ 0 by omega])
      · skip
        refine lv_iload_n hx hb dX8_doCommute_16 rfl (lv_at hl 3 rfl) ?_
        refine zq_eq (tgt := 39) hx hb dX8_doCommute_17 (by decide) (fun c17 => ?_) (fun c17 => ?_)
        · skip
          refine lv_iconst (v := nI 0) hx hb dX8_doCommute_39 (by decide) ?_
          refine zi_top (v := if chkA (comF rc_ oc_) (i_ + 1) = true then 1 else 0) (chkA_0a c17) ?_
          refine lv_istore_n (lv' := [(3, .int (if chkA (comF rc_ oc_) (i_ + 1) = true then 1 else 0)), (0, .ref (bd 0)), (1, .ref ra_), (2, .ref oa_), (4, .int (nI i_))]) hx hb dX8_doCommute_40 rfl hl (by decide) rfl (fun ls hl => ?_)
          refine lv_iinc (v := nI (i_ + 1)) (lv' := [(4, .int (nI (i_ + 1))), (3, .int (if chkA (comF rc_ oc_) (i_ + 1) = true then 1 else 0)), (0, .ref (bd 0)), (1, .ref ra_), (2, .ref oa_)]) hx hb dX8_doCommute_41 hl (k := 4) rfl (nI_1 _) (by decide) rfl (fun ls hl => ?_)
          refine lv_goto (tgt := 5) hx hb dX8_doCommute_44 (by decide) ?_
          exact ih5 (i_ + 1) (by omega) (by omega) _ (lv_sub hl [2, 3, 4, 1, 0] rfl)
        · skip
          refine lv_aload_n hx hb dX8_doCommute_20 rfl (lv_at hl 1 rfl) ?_
          refine lv_aload_n hx hb dX8_doCommute_21 rfl (lv_at hl 2 rfl) ?_
          refine lv_iload hx hb dX8_doCommute_22 (lv_at hl 4 rfl) ?_
          refine zi_iald (v := nI (oc_ i_)) hx hb hK hP 3 rfl (by omega) (by omega) rfl dX8_doCommute_24 ?_
          have hl25 := hrl i_ (by omega)
          refine zi_iald (v := nI (rc_ (oc_ i_))) hx hb hK hP 2 rfl (by omega) (by omega) rfl dX8_doCommute_25 ?_
          refine lv_aload_n hx hb dX8_doCommute_26 rfl (lv_at hl 2 rfl) ?_
          refine lv_aload_n hx hb dX8_doCommute_27 rfl (lv_at hl 1 rfl) ?_
          refine lv_iload hx hb dX8_doCommute_28 (lv_at hl 4 rfl) ?_
          refine zi_iald (v := nI (rc_ i_)) hx hb hK hP 2 rfl (by omega) (by omega) rfl dX8_doCommute_30 ?_
          have hl31 := hrl i_ (by omega)
          refine zi_iald (v := nI (oc_ (rc_ i_))) hx hb hK hP 3 rfl (by omega) (by omega) rfl dX8_doCommute_31 ?_
          have hb32 := (hrb (oc_ i_) (by omega)).1
          have hb33 := (hrb (rc_ i_) (by omega)).2
          refine zb_ne (a := rc_ (oc_ i_)) (b := oc_ (rc_ i_)) (tgt := 39) hx hb dX8_doCommute_32 (by decide) (by omega) (by omega) (fun c32 => ?_) (fun c32 => ?_)
          · skip
            refine lv_iconst (v := nI 0) hx hb dX8_doCommute_39 (by decide) ?_
            refine zi_top (v := if chkA (comF rc_ oc_) (i_ + 1) = true then 1 else 0) (chkA_0b (by unfold comF; simp [c32])) ?_
            refine lv_istore_n (lv' := [(3, .int (if chkA (comF rc_ oc_) (i_ + 1) = true then 1 else 0)), (0, .ref (bd 0)), (1, .ref ra_), (2, .ref oa_), (4, .int (nI i_))]) hx hb dX8_doCommute_40 rfl hl (by decide) rfl (fun ls hl => ?_)
            refine lv_iinc (v := nI (i_ + 1)) (lv' := [(4, .int (nI (i_ + 1))), (3, .int (if chkA (comF rc_ oc_) (i_ + 1) = true then 1 else 0)), (0, .ref (bd 0)), (1, .ref ra_), (2, .ref oa_)]) hx hb dX8_doCommute_41 hl (k := 4) rfl (nI_1 _) (by decide) rfl (fun ls hl => ?_)
            refine lv_goto (tgt := 5) hx hb dX8_doCommute_44 (by decide) ?_
            exact ih5 (i_ + 1) (by omega) (by omega) _ (lv_sub hl [2, 3, 4, 1, 0] rfl)
          · skip
            refine lv_iconst (v := nI 1) hx hb dX8_doCommute_35 (by decide) ?_
            refine lv_goto (tgt := 40) hx hb dX8_doCommute_36 (by decide) ?_
            refine zi_top (v := if chkA (comF rc_ oc_) (i_ + 1) = true then 1 else 0) (chkA_1 c17 (by unfold comF; simp [c32])) ?_
            refine lv_istore_n (lv' := [(3, .int (if chkA (comF rc_ oc_) (i_ + 1) = true then 1 else 0)), (0, .ref (bd 0)), (1, .ref ra_), (2, .ref oa_), (4, .int (nI i_))]) hx hb dX8_doCommute_40 rfl hl (by decide) rfl (fun ls hl => ?_)
            refine lv_iinc (v := nI (i_ + 1)) (lv' := [(4, .int (nI (i_ + 1))), (3, .int (if chkA (comF rc_ oc_) (i_ + 1) = true then 1 else 0)), (0, .ref (bd 0)), (1, .ref ra_), (2, .ref oa_)]) hx hb dX8_doCommute_41 hl (k := 4) rfl (nI_1 _) (by decide) rfl (fun ls hl => ?_)
            refine lv_goto (tgt := 5) hx hb dX8_doCommute_44 (by decide) ?_
            exact ih5 (i_ + 1) (by omega) (by omega) _ (lv_sub hl [2, 3, 4, 1, 0] rfl)
  exact L5 (f_ 0 - 0 + 1) 0 (Nat.zero_le _) (Nat.lt_succ_self _) _ (lv_sub hl [2, 3, 4, 1, 0] rfl)

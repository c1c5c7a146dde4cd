abbrev w_X5_cutTo : List Cond := Cond.code yX5_cutTo cX5_cutTo 3 (some .int) :: zAll
abbrev r_X5_cutTo : Room := { frames := 0, cells := 0, slots := 0, locals := 0 }
theorem zd_X5_cutTo : yX5_cutTo.cls ≠ "java/lang/invoke/MethodHandle" ∧ yX5_cutTo.cls ≠ "java/lang/invoke/VarHandle" ∧ (parseMethodDescriptor yX5_cutTo.desc).map (fun d => d.parameters.length) = some 3 := by decide +kernel
set_option maxHeartbeats 4000000 in
set_option maxRecDepth 100000 in
theorem c_X5_cutTo (l : Launch) (D : va_G) (cy : Nat → ClassId) (k_ : Nat) (p_ : Nat) (n_ : Nat) (hk : k_ ≤ n_) (hp : p_ < n_) (hn : n_ ≤ 16) : zMi l yX5_cutTo w_X5_cutTo r_X5_cutTo D cy [] [.int (nI k_), .int (nI p_), .int (nI n_)] (fun r_ => r_ = (nI (cutF k_ n_ p_))) := by
  refine zOfR (cc := cX5_cutTo) (maxL := 3) (ty := .int) (by decide) rfl (Nat.le_of_ble_eq_true rfl) ?_
  intro zp ze zs zm za zb zme zc hx hb hml hts hown hP hK Q kr ls hl
  have hown : zs.vm.findClass RX5 = some zm.cls := hown
  have hl : lv_has ls 3 [(0, .int (nI k_)), (1, .int (nI p_)), (2, .int (nI n_))] := hl
  refine lv_iload_n hx hb dX5_cutTo_0 rfl (lv_at hl 1 rfl) ?_
  refine lv_iload_n hx hb dX5_cutTo_1 rfl (lv_at hl 0 rfl) ?_
  refine zb_ge (a := p_) (b := k_) (tgt := 13) hx hb dX5_cutTo_2 (by decide) (by omega) (by omega) (fun c2 => ?_) (fun c2 => ?_)
  · skip
    refine lv_iload_n hx hb dX5_cutTo_13 rfl (lv_at hl 1 rfl) ?_
    refine lv_iload_n hx hb dX5_cutTo_14 rfl (lv_at hl 0 rfl) ?_
    refine zi_sub (v := nI (p_ - k_)) hx hb dX5_cutTo_15 (pk_sub (by omega)) ?_
    exact kr _ _ _ dX5_cutTo_16 (vp_nar_int _) (congrArg nI (by unfold cutF; rw [if_neg (by omega)]))
  · skip
    refine lv_iload_n hx hb dX5_cutTo_5 rfl (lv_at hl 1 rfl) ?_
    refine lv_iload_n hx hb dX5_cutTo_6 rfl (lv_at hl 0 rfl) ?_
    refine zi_sub (v := (nI p_) - (nI k_)) hx hb dX5_cutTo_7 rfl ?_
    refine lv_iload_n hx hb dX5_cutTo_8 rfl (lv_at hl 2 rfl) ?_
    refine zi_add (v := nI (cutF k_ n_ p_)) hx hb dX5_cutTo_9 (zz_cutA c2 hk hn) ?_
    refine lv_goto (tgt := 16) hx hb dX5_cutTo_10 (by decide) ?_
    exact kr _ _ _ dX5_cutTo_16 (vp_nar_int _) rfl
abbrev w_X5_riffleTo : List Cond := Cond.code yX5_riffleTo cX5_riffleTo 5 (some .int) :: zAll
abbrev r_X5_riffleTo : Room := { frames := 0, cells := 0, slots := 0, locals := 0 }
theorem zd_X5_riffleTo : yX5_riffleTo.cls ≠ "java/lang/invoke/MethodHandle" ∧ yX5_riffleTo.cls ≠ "java/lang/invoke/VarHandle" ∧ (parseMethodDescriptor yX5_riffleTo.desc).map (fun d => d.parameters.length) = some 3 := by decide +kernel
set_option maxHeartbeats 4000000 in
set_option maxRecDepth 100000 in
theorem c_X5_riffleTo (l : Launch) (D : va_G) (cy : Nat → ClassId) (b_ : Nat) (p_ : Nat) (n_ : Nat) (hb_ : b_ ≤ 1) (hp : p_ < n_) (hn : n_ ≤ 16) : zMi l yX5_riffleTo w_X5_riffleTo r_X5_riffleTo D cy [] [.int (nI b_), .int (nI p_), .int (nI n_)] (fun r_ => r_ = (nI (rifF b_ n_ p_))) := by
  refine zOfR (cc := cX5_riffleTo) (maxL := 5) (ty := .int) (by decide) rfl (Nat.le_of_ble_eq_true rfl) ?_
  intro zp ze zs zm za zb zme zc hx hb hml hts hown hP hK Q kr ls hl
  have hown : zs.vm.findClass RX5 = some zm.cls := hown
  have hl : lv_has ls 5 [(0, .int (nI b_)), (1, .int (nI p_)), (2, .int (nI n_))] := hl
  refine lv_iload_n hx hb dX5_riffleTo_0 rfl (lv_at hl 0 rfl) ?_
  refine zb0_eq (a := b_) (tgt := 10) hx hb dX5_riffleTo_1 (by decide) (by omega) (fun c1 => ?_) (fun c1 => ?_)
  · skip
    refine lv_iload_n hx hb dX5_riffleTo_10 rfl (lv_at hl 2 rfl) ?_
    refine lv_iconst (v := nI 1) hx hb dX5_riffleTo_11 (by decide) ?_
    refine zi_add (v := nI (n_ + 1)) hx hb dX5_riffleTo_12 (nI_add _ _) ?_
    refine lv_iconst (v := nI 2) hx hb dX5_riffleTo_13 (by decide) ?_
    refine zi_div (v := nI ((n_ + 1) / 2)) hx hb dX5_riffleTo_14 (nI_ne0 (by omega) (by omega)) (pk_div (by omega) (by omega) (by omega)) ?_
    refine lv_istore_n (lv' := [(3, .int (nI ((n_ + 1) / 2))), (0, .int (nI b_)), (1, .int (nI p_)), (2, .int (nI n_))]) hx hb dX5_riffleTo_15 rfl hl (by decide) rfl (fun ls hl => ?_)
    refine lv_iload_n hx hb dX5_riffleTo_16 rfl (lv_at hl 1 rfl) ?_
    refine zb0_eq (a := b_) (tgt := 24) hx hb dX5_riffleTo_17 (by decide) (by omega) (fun c17 => ?_) (fun c17 => ?_)
    · skip
      refine lv_iconst (v := nI 0) hx hb dX5_riffleTo_24 (by decide) ?_
      refine lv_istore (lv' := [(4, .int (nI 0)), (3, .int (nI ((n_ + 1) / 2))), (0, .int (nI b_)), (1, .int (nI p_)), (2, .int (nI n_))]) hx hb dX5_riffleTo_25 hl (by decide) rfl (fun ls hl => ?_)
      refine lv_iload_n hx hb dX5_riffleTo_27 rfl (lv_at hl 3 rfl) ?_
      refine lv_iload_n hx hb dX5_riffleTo_28 rfl (lv_at hl 1 rfl) ?_
      refine zb_ge (a := p_) (b := (n_ + 1) / 2) (tgt := 41) hx hb dX5_riffleTo_29 (by decide) (by omega) (by omega) (fun c29 => ?_) (fun c29 => ?_)
      · skip
        refine lv_iconst (v := nI 2) hx hb dX5_riffleTo_41 (by decide) ?_
        refine lv_iload_n hx hb dX5_riffleTo_42 rfl (lv_at hl 3 rfl) ?_
        refine lv_iload_n hx hb dX5_riffleTo_43 rfl (lv_at hl 1 rfl) ?_
        refine zi_sub (v := nI (p_ - ((n_ + 1) / 2))) hx hb dX5_riffleTo_44 (pk_sub (by omega)) ?_
        refine zi_mul (v := nI (2 * (p_ - ((n_ + 1) / 2)))) hx hb dX5_riffleTo_45 (pk_mul _ _) ?_
        refine lv_iconst (v := nI 1) hx hb dX5_riffleTo_46 (by decide) ?_
        refine zi_add (v := nI ((2 * (p_ - ((n_ + 1) / 2))) + 1)) hx hb dX5_riffleTo_47 (nI_add _ _) ?_
        refine lv_iload hx hb dX5_riffleTo_48 (lv_at hl 0 rfl) ?_
        refine zi_sub (v := nI (((2 * (p_ - ((n_ + 1) / 2))) + 1) - 0)) hx hb dX5_riffleTo_50 (pk_sub (by omega)) ?_
        exact kr _ _ _ dX5_riffleTo_51 (vp_nar_int _) (congrArg nI (Eq.trans (show 2 * (p_ - ((n_ + 1) / 2)) + 1 - 0 = 2 * (p_ - ((n_ + 1) / 2)) + 1 - b_ by omega) (rif_hi (h := (n_ + 1) / 2) (by unfold rifH; split <;> omega) (by omega))))
      · skip
        refine lv_iconst (v := nI 2) hx hb dX5_riffleTo_32 (by decide) ?_
        refine lv_iload_n hx hb dX5_riffleTo_33 rfl (lv_at hl 3 rfl) ?_
        refine zi_mul (v := nI (2 * p_)) hx hb dX5_riffleTo_34 (pk_mul _ _) ?_
        refine lv_iload hx hb dX5_riffleTo_35 (lv_at hl 0 rfl) ?_
        refine zi_add (v := nI ((2 * p_) + 0)) hx hb dX5_riffleTo_37 (nI_add _ _) ?_
        refine lv_goto (tgt := 51) hx hb dX5_riffleTo_38 (by decide) ?_
        exact kr _ _ _ dX5_riffleTo_51 (vp_nar_int _) (congrArg nI (Eq.trans (show 2 * p_ + 0 = 2 * p_ + b_ by omega) (rif_lo (h := (n_ + 1) / 2) (by unfold rifH; split <;> omega) (by omega))))
    · skip
      refine lv_iconst (v := nI 1) hx hb dX5_riffleTo_20 (by decide) ?_
      refine lv_goto (tgt := 25) hx hb dX5_riffleTo_21 (by decide) ?_
      refine lv_istore (lv' := [(4, .int (nI 1)), (3, .int (nI ((n_ + 1) / 2))), (0, .int (nI b_)), (1, .int (nI p_)), (2, .int (nI n_))]) hx hb dX5_riffleTo_25 hl (by decide) rfl (fun ls hl => ?_)
      refine lv_iload_n hx hb dX5_riffleTo_27 rfl (lv_at hl 3 rfl) ?_
      refine lv_iload_n hx hb dX5_riffleTo_28 rfl (lv_at hl 1 rfl) ?_
      refine zb_ge (a := p_) (b := (n_ + 1) / 2) (tgt := 41) hx hb dX5_riffleTo_29 (by decide) (by omega) (by omega) (fun c29 => ?_) (fun c29 => ?_)
      · skip
        refine lv_iconst (v := nI 2) hx hb dX5_riffleTo_41 (by decide) ?_
        refine lv_iload_n hx hb dX5_riffleTo_42 rfl (lv_at hl 3 rfl) ?_
        refine lv_iload_n hx hb dX5_riffleTo_43 rfl (lv_at hl 1 rfl) ?_
        refine zi_sub (v := nI (p_ - ((n_ + 1) / 2))) hx hb dX5_riffleTo_44 (pk_sub (by omega)) ?_
        refine zi_mul (v := nI (2 * (p_ - ((n_ + 1) / 2)))) hx hb dX5_riffleTo_45 (pk_mul _ _) ?_
        refine lv_iconst (v := nI 1) hx hb dX5_riffleTo_46 (by decide) ?_
        refine zi_add (v := nI ((2 * (p_ - ((n_ + 1) / 2))) + 1)) hx hb dX5_riffleTo_47 (nI_add _ _) ?_
        refine lv_iload hx hb dX5_riffleTo_48 (lv_at hl 0 rfl) ?_
        refine zi_sub (v := nI (((2 * (p_ - ((n_ + 1) / 2))) + 1) - 1)) hx hb dX5_riffleTo_50 (pk_sub (by omega)) ?_
        exact kr _ _ _ dX5_riffleTo_51 (vp_nar_int _) (congrArg nI (Eq.trans (show 2 * (p_ - ((n_ + 1) / 2)) + 1 - 1 = 2 * (p_ - ((n_ + 1) / 2)) + 1 - b_ by omega) (rif_hi (h := (n_ + 1) / 2) (by unfold rifH; split <;> omega) (by omega))))
      · skip
        refine lv_iconst (v := nI 2) hx hb dX5_riffleTo_32 (by decide) ?_
        refine lv_iload_n hx hb dX5_riffleTo_33 rfl (lv_at hl 3 rfl) ?_
        refine zi_mul (v := nI (2 * p_)) hx hb dX5_riffleTo_34 (pk_mul _ _) ?_
        refine lv_iload hx hb dX5_riffleTo_35 (lv_at hl 0 rfl) ?_
        refine zi_add (v := nI ((2 * p_) + 1)) hx hb dX5_riffleTo_37 (nI_add _ _) ?_
        refine lv_goto (tgt := 51) hx hb dX5_riffleTo_38 (by decide) ?_
        exact kr _ _ _ dX5_riffleTo_51 (vp_nar_int _) (congrArg nI (Eq.trans (show 2 * p_ + 1 = 2 * p_ + b_ by omega) (rif_lo (h := (n_ + 1) / 2) (by unfold rifH; split <;> omega) (by omega))))
  · skip
    refine lv_iload_n hx hb dX5_riffleTo_4 rfl (lv_at hl 2 rfl) ?_
    refine lv_iconst (v := nI 2) hx hb dX5_riffleTo_5 (by decide) ?_
    refine zi_div (v := nI (n_ / 2)) hx hb dX5_riffleTo_6 (nI_ne0 (by omega) (by omega)) (pk_div (by omega) (by omega) (by omega)) ?_
    refine lv_goto (tgt := 15) hx hb dX5_riffleTo_7 (by decide) ?_
    refine lv_istore_n (lv' := [(3, .int (nI (n_ / 2))), (0, .int (nI b_)), (1, .int (nI p_)), (2, .int (nI n_))]) hx hb dX5_riffleTo_15 rfl hl (by decide) rfl (fun ls hl => ?_)
    refine lv_iload_n hx hb dX5_riffleTo_16 rfl (lv_at hl 1 rfl) ?_
    refine zb0_eq (a := b_) (tgt := 24) hx hb dX5_riffleTo_17 (by decide) (by omega) (fun c17 => ?_) (fun c17 => ?_)
    · skip
      refine lv_iconst (v := nI 0) hx hb dX5_riffleTo_24 (by decide) ?_
      refine lv_istore (lv' := [(4, .int (nI 0)), (3, .int (nI (n_ / 2))), (0, .int (nI b_)), (1, .int (nI p_)), (2, .int (nI n_))]) hx hb dX5_riffleTo_25 hl (by decide) rfl (fun ls hl => ?_)
      refine lv_iload_n hx hb dX5_riffleTo_27 rfl (lv_at hl 3 rfl) ?_
      refine lv_iload_n hx hb dX5_riffleTo_28 rfl (lv_at hl 1 rfl) ?_
      refine zb_ge (a := p_) (b := n_ / 2) (tgt := 41) hx hb dX5_riffleTo_29 (by decide) (by omega) (by omega) (fun c29 => ?_) (fun c29 => ?_)
      · skip
        refine lv_iconst (v := nI 2) hx hb dX5_riffleTo_41 (by decide) ?_
        refine lv_iload_n hx hb dX5_riffleTo_42 rfl (lv_at hl 3 rfl) ?_
        refine lv_iload_n hx hb dX5_riffleTo_43 rfl (lv_at hl 1 rfl) ?_
        refine zi_sub (v := nI (p_ - (n_ / 2))) hx hb dX5_riffleTo_44 (pk_sub (by omega)) ?_
        refine zi_mul (v := nI (2 * (p_ - (n_ / 2)))) hx hb dX5_riffleTo_45 (pk_mul _ _) ?_
        refine lv_iconst (v := nI 1) hx hb dX5_riffleTo_46 (by decide) ?_
        refine zi_add (v := nI ((2 * (p_ - (n_ / 2))) + 1)) hx hb dX5_riffleTo_47 (nI_add _ _) ?_
        refine lv_iload hx hb dX5_riffleTo_48 (lv_at hl 0 rfl) ?_
        refine zi_sub (v := nI (((2 * (p_ - (n_ / 2))) + 1) - 0)) hx hb dX5_riffleTo_50 (pk_sub (by omega)) ?_
        exact kr _ _ _ dX5_riffleTo_51 (vp_nar_int _) (congrArg nI (Eq.trans (show 2 * (p_ - (n_ / 2)) + 1 - 0 = 2 * (p_ - (n_ / 2)) + 1 - b_ by omega) (rif_hi (h := n_ / 2) (by unfold rifH; split <;> omega) (by omega))))
      · skip
        refine lv_iconst (v := nI 2) hx hb dX5_riffleTo_32 (by decide) ?_
        refine lv_iload_n hx hb dX5_riffleTo_33 rfl (lv_at hl 3 rfl) ?_
        refine zi_mul (v := nI (2 * p_)) hx hb dX5_riffleTo_34 (pk_mul _ _) ?_
        refine lv_iload hx hb dX5_riffleTo_35 (lv_at hl 0 rfl) ?_
        refine zi_add (v := nI ((2 * p_) + 0)) hx hb dX5_riffleTo_37 (nI_add _ _) ?_
        refine lv_goto (tgt := 51) hx hb dX5_riffleTo_38 (by decide) ?_
        exact kr _ _ _ dX5_riffleTo_51 (vp_nar_int _) (congrArg nI (Eq.trans (show 2 * p_ + 0 = 2 * p_ + b_ by omega) (rif_lo (h := n_ / 2) (by unfold rifH; split <;> omega) (by omega))))
    · skip
      refine lv_iconst (v := nI 1) hx hb dX5_riffleTo_20 (by decide) ?_
      refine lv_goto (tgt := 25) hx hb dX5_riffleTo_21 (by decide) ?_
      refine lv_istore (lv' := [(4, .int (nI 1)), (3, .int (nI (n_ / 2))), (0, .int (nI b_)), (1, .int (nI p_)), (2, .int (nI n_))]) hx hb dX5_riffleTo_25 hl (by decide) rfl (fun ls hl => ?_)
      refine lv_iload_n hx hb dX5_riffleTo_27 rfl (lv_at hl 3 rfl) ?_
      refine lv_iload_n hx hb dX5_riffleTo_28 rfl (lv_at hl 1 rfl) ?_
      refine zb_ge (a := p_) (b := n_ / 2) (tgt := 41) hx hb dX5_riffleTo_29 (by decide) (by omega) (by omega) (fun c29 => ?_) (fun c29 => ?_)
      · skip
        refine lv_iconst (v := nI 2) hx hb dX5_riffleTo_41 (by decide) ?_
        refine lv_iload_n hx hb dX5_riffleTo_42 rfl (lv_at hl 3 rfl) ?_
        refine lv_iload_n hx hb dX5_riffleTo_43 rfl (lv_at hl 1 rfl) ?_
        refine zi_sub (v := nI (p_ - (n_ / 2))) hx hb dX5_riffleTo_44 (pk_sub (by omega)) ?_
        refine zi_mul (v := nI (2 * (p_ - (n_ / 2)))) hx hb dX5_riffleTo_45 (pk_mul _ _) ?_
        refine lv_iconst (v := nI 1) hx hb dX5_riffleTo_46 (by decide) ?_
        refine zi_add (v := nI ((2 * (p_ - (n_ / 2))) + 1)) hx hb dX5_riffleTo_47 (nI_add _ _) ?_
        refine lv_iload hx hb dX5_riffleTo_48 (lv_at hl 0 rfl) ?_
        refine zi_sub (v := nI (((2 * (p_ - (n_ / 2))) + 1) - 1)) hx hb dX5_riffleTo_50 (pk_sub (by omega)) ?_
        exact kr _ _ _ dX5_riffleTo_51 (vp_nar_int _) (congrArg nI (Eq.trans (show 2 * (p_ - (n_ / 2)) + 1 - 1 = 2 * (p_ - (n_ / 2)) + 1 - b_ by omega) (rif_hi (h := n_ / 2) (by unfold rifH; split <;> omega) (by omega))))
      · skip
        refine lv_iconst (v := nI 2) hx hb dX5_riffleTo_32 (by decide) ?_
        refine lv_iload_n hx hb dX5_riffleTo_33 rfl (lv_at hl 3 rfl) ?_
        refine zi_mul (v := nI (2 * p_)) hx hb dX5_riffleTo_34 (pk_mul _ _) ?_
        refine lv_iload hx hb dX5_riffleTo_35 (lv_at hl 0 rfl) ?_
        refine zi_add (v := nI ((2 * p_) + 1)) hx hb dX5_riffleTo_37 (nI_add _ _) ?_
        refine lv_goto (tgt := 51) hx hb dX5_riffleTo_38 (by decide) ?_
        exact kr _ _ _ dX5_riffleTo_51 (vp_nar_int _) (congrArg nI (Eq.trans (show 2 * p_ + 1 = 2 * p_ + b_ by omega) (rif_lo (h := n_ / 2) (by unfold rifH; split <;> omega) (by omega))))
abbrev w_X5_stepTo : List Cond := Cond.code yX5_stepTo cX5_stepTo 3 (some .int) :: zAll
abbrev r_X5_stepTo : Room := { frames := 1, cells := 0, slots := 0, locals := 24 }
theorem zd_X5_stepTo : yX5_stepTo.cls ≠ "java/lang/invoke/MethodHandle" ∧ yX5_stepTo.cls ≠ "java/lang/invoke/VarHandle" ∧ (parseMethodDescriptor yX5_stepTo.desc).map (fun d => d.parameters.length) = some 3 := by decide +kernel
set_option maxHeartbeats 4000000 in
set_option maxRecDepth 100000 in
theorem c_X5_stepTo (l : Launch) (D : va_G) (cy : Nat → ClassId) (t_ : Nat) (p_ : Nat) (n_ : Nat) (ht : t_ < 4) (hp : p_ < n_) (hn : n_ ≤ 16) : zMi l yX5_stepTo w_X5_stepTo r_X5_stepTo D cy [] [.int (nI t_), .int (nI p_), .int (nI n_)] (fun r_ => r_ = (nI (stepF t_ n_ p_))) := by
  refine zOfR (cc := cX5_stepTo) (maxL := 3) (ty := .int) (by decide) rfl (Nat.le_of_ble_eq_true rfl) ?_
  intro zp ze zs zm za zb zme zc hx hb hml hts hown hP hK Q kr ls hl
  have hown : zs.vm.findClass RX5 = some zm.cls := hown
  have hl : lv_has ls 3 [(0, .int (nI t_)), (1, .int (nI p_)), (2, .int (nI n_))] := hl
  refine lv_iload_n hx hb dX5_stepTo_0 rfl (lv_at hl 0 rfl) ?_
  have hsw1 : (nI t_).toInt = ((t_ : Nat) : Int) := (nI_toInt (by omega))
  rcases (show ((t_ : Nat) : Int) = 0 ∨ ((t_ : Nat) : Int) = 1 ∨ ((t_ : Nat) : Int) = 2 ∨ (((t_ : Nat) : Int) < 0 ∨ 2 < ((t_ : Nat) : Int)) by omega) with c1 | c1 | c1 | c1
  · refine lv_tableIn (tgt := 28) (off := 27) hx hb dX5_stepTo_1 (by rw [hsw1, c1]; decide) (by rw [hsw1, c1]; decide) (by rw [hsw1, c1]; rfl) (by decide) ?_
    refine lv_iconst (v := nI 1) hx hb dX5_stepTo_28 (by decide) ?_
    refine lv_iload_n hx hb dX5_stepTo_29 rfl (lv_at hl 1 rfl) ?_
    refine lv_iload_n hx hb dX5_stepTo_30 rfl (lv_at hl 2 rfl) ?_
    refine zcSi (As := [.int (nI 1), .int (nI p_), .int (nI n_)]) (rest := []) ⟨hx, hb, hml, hown, hts⟩ (c_X5_cutTo l D cy 1 p_ n_ (by omega) (by omega) (by omega)) (va_cwS 3 hts (zG_S zw_273 zw_274 zw_270 zw_275) rfl rfl rfl zd_X5_cutTo ⟨Nat.le_of_ble_eq_true rfl, Nat.le_of_ble_eq_true rfl⟩) hK hP [] rfl rfl hl.1 rfl (Nat.le_of_ble_eq_true rfl) dX5_stepTo_31 ⟨Nat.zero_le _, Nat.zero_le _⟩ (fun r31 h31 => ?_)
    subst h31
    exact kr _ _ _ dX5_stepTo_34 (vp_nar_int _) (congrArg nI (by unfold stepF; rw [if_pos (by omega)]))
  · refine lv_tableIn (tgt := 35) (off := 34) hx hb dX5_stepTo_1 (by rw [hsw1, c1]; decide) (by rw [hsw1, c1]; decide) (by rw [hsw1, c1]; rfl) (by decide) ?_
    refine lv_iconst (v := nI 0) hx hb dX5_stepTo_35 (by decide) ?_
    refine lv_iload_n hx hb dX5_stepTo_36 rfl (lv_at hl 1 rfl) ?_
    refine lv_iload_n hx hb dX5_stepTo_37 rfl (lv_at hl 2 rfl) ?_
    refine zcSi (As := [.int (nI 0), .int (nI p_), .int (nI n_)]) (rest := []) ⟨hx, hb, hml, hown, hts⟩ (c_X5_riffleTo l D cy 0 p_ n_ (by omega) (by omega) (by omega)) (va_cwS 3 hts (zG_S zw_287 zw_288 zw_270 zw_289) rfl rfl rfl zd_X5_riffleTo ⟨Nat.le_of_ble_eq_true rfl, Nat.le_of_ble_eq_true rfl⟩) hK hP [] rfl rfl hl.1 rfl (Nat.le_of_ble_eq_true rfl) dX5_stepTo_38 ⟨Nat.zero_le _, Nat.zero_le _⟩ (fun r38 h38 => ?_)
    subst h38
    exact kr _ _ _ dX5_stepTo_41 (vp_nar_int _) (congrArg nI (by unfold stepF; rw [if_neg (by omega), if_pos (by omega)]))
  · refine lv_tableIn (tgt := 42) (off := 41) hx hb dX5_stepTo_1 (by rw [hsw1, c1]; decide) (by rw [hsw1, c1]; decide) (by rw [hsw1, c1]; rfl) (by decide) ?_
    refine lv_iconst (v := nI 1) hx hb dX5_stepTo_42 (by decide) ?_
    refine lv_iload_n hx hb dX5_stepTo_43 rfl (lv_at hl 1 rfl) ?_
    refine lv_iload_n hx hb dX5_stepTo_44 rfl (lv_at hl 2 rfl) ?_
    refine zcSi (As := [.int (nI 1), .int (nI p_), .int (nI n_)]) (rest := []) ⟨hx, hb, hml, hown, hts⟩ (c_X5_riffleTo l D cy 1 p_ n_ (by omega) (by omega) (by omega)) (va_cwS 3 hts (zG_S zw_287 zw_288 zw_270 zw_289) rfl rfl rfl zd_X5_riffleTo ⟨Nat.le_of_ble_eq_true rfl, Nat.le_of_ble_eq_true rfl⟩) hK hP [] rfl rfl hl.1 rfl (Nat.le_of_ble_eq_true rfl) dX5_stepTo_45 ⟨Nat.zero_le _, Nat.zero_le _⟩ (fun r45 h45 => ?_)
    subst h45
    exact kr _ _ _ dX5_stepTo_48 (vp_nar_int _) (congrArg nI (by unfold stepF; rw [if_neg (by omega), if_neg (by omega), if_pos (by omega)]))
  · refine lv_tableOut (tgt := 49) hx hb dX5_stepTo_1 (by rw [hsw1]; exact c1) (by decide) ?_
    refine lv_iload_n hx hb dX5_stepTo_49 rfl (lv_at hl 2 rfl) ?_
    refine lv_iconst (v := nI 1) hx hb dX5_stepTo_50 (by decide) ?_
    refine zi_sub (v := nI (n_ - 1)) hx hb dX5_stepTo_51 (pk_sub (by omega)) ?_
    refine lv_iload_n hx hb dX5_stepTo_52 rfl (lv_at hl 1 rfl) ?_
    refine zi_sub (v := nI ((n_ - 1) - p_)) hx hb dX5_stepTo_53 (pk_sub (by omega)) ?_
    exact kr _ _ _ dX5_stepTo_54 (vp_nar_int _) (congrArg nI (by unfold stepF; rw [if_neg (by omega), if_neg (by omega), if_neg (by omega)]))
abbrev w_X5_cutBy : List Cond := Cond.code yX5_cutBy cX5_cutBy 5 (some .long) :: zAll
abbrev r_X5_cutBy : Room := { frames := 1, cells := 0, slots := 0, locals := 25 }
theorem zd_X5_cutBy : yX5_cutBy.cls ≠ "java/lang/invoke/MethodHandle" ∧ yX5_cutBy.cls ≠ "java/lang/invoke/VarHandle" ∧ (parseMethodDescriptor yX5_cutBy.desc).map (fun d => d.parameters.length) = some 2 := by decide +kernel
set_option maxHeartbeats 4000000 in
set_option maxRecDepth 100000 in
theorem c_X5_cutBy (l : Launch) (D : va_G) (cy : Nat → ClassId) (k_ : Nat) (n_ : Nat) (hk : k_ < n_) (hn : n_ ≤ 16) : zMl l yX5_cutBy w_X5_cutBy r_X5_cutBy D cy [] [.int (nI k_), .int (nI n_)] (fun r_ => r_ = (perL (cutF k_ n_) n_)) := by
  refine zOfRl (cc := cX5_cutBy) (maxL := 5) (by decide) rfl (Nat.le_of_ble_eq_true rfl) ?_
  intro zp ze zs zm za zb zme zc hx hb hml hts hown hP hK Q kr ls hl
  have hown : zs.vm.findClass RX5 = some zm.cls := hown
  have hl : lv_has ls 5 [(0, .int (nI k_)), (1, .int (nI n_))] := hl
  refine lv_ldc2 hx hb hown (hts _ (List.mem_cons_of_mem _ zw_272)) dX5_cutBy_0 ?_
  refine zl_top (v := perL (cutF k_ n_) 0) (stay_perL _) ?_
  refine lv_lstore_n (lv' := [(2, .long (perL (cutF k_ n_) 0)), (0, .int (nI k_)), (1, .int (nI n_))]) hx hb dX5_cutBy_3 rfl hl (by decide) rfl (fun ls hl => ?_)
  refine lv_iconst (v := nI 0) hx hb dX5_cutBy_4 (by decide) ?_
  refine lv_istore (lv' := [(4, .int (nI 0)), (2, .long (perL (cutF k_ n_) 0)), (0, .int (nI k_)), (1, .int (nI n_))]) hx hb dX5_cutBy_5 hl (by decide) rfl (fun ls hl => ?_)
  have L7 : ∀ (kf_ : Nat) (i_ : Nat) (hi : i_ ≤ n_), n_ - i_ < kf_ → ∀ ls : Array Slot, lv_has ls 5 [(0, .int (nI k_)), (1, .int (nI n_)), (2, .long (perL (cutF k_ n_) i_)), (4, .int (nI i_))] → W zp l ze r_X5_cutBy zs zm za zb zme zc zs.heap [] 0 0 Q (F0 zm 7 ls []) := by
    intro kf_
    induction kf_ with
    | zero => intro i_ hi hk_; exact absurd hk_ (Nat.not_lt_zero _)
    | succ kf_ ih7 =>
      intro i_ hi hk_ ls hl
      refine lv_iload hx hb dX5_cutBy_7 (lv_at hl 3 rfl) ?_
      refine lv_iload_n hx hb dX5_cutBy_9 rfl (lv_at hl 1 rfl) ?_
      refine zb_ge (a := i_) (b := n_) (tgt := 33) hx hb dX5_cutBy_10 (by decide) (by omega) (by omega) (fun c10 => ?_) (fun c10 => ?_)
      · skip
        refine lv_lload_n hx hb dX5_cutBy_33 rfl (lv_at hl 2 rfl) ?_
        exact kr _ _ _ dX5_cutBy_34 (by rw [show i_ = n_ by omega])
      · skip
        refine lv_lload_n hx hb dX5_cutBy_13 rfl (lv_at hl 2 rfl) ?_
        refine lv_iload hx hb dX5_cutBy_14 (lv_at hl 3 rfl) ?_
        refine lv_iload_n hx hb dX5_cutBy_16 rfl (lv_at hl 0 rfl) ?_
        refine lv_iload hx hb dX5_cutBy_17 (lv_at hl 3 rfl) ?_
        refine lv_iload_n hx hb dX5_cutBy_19 rfl (lv_at hl 1 rfl) ?_
        refine zcSi (As := [.int (nI k_), .int (nI i_), .int (nI n_)]) (rest := [.int (nI i_), .long (perL (cutF k_ n_) i_)]) ⟨hx, hb, hml, hown, hts⟩ (c_X5_cutTo l D cy k_ i_ n_ (by omega) (by omega) (by omega)) (va_cwS 3 hts (zG_S zw_273 zw_274 zw_270 zw_275) rfl rfl rfl zd_X5_cutTo ⟨Nat.le_of_ble_eq_true rfl, Nat.le_of_ble_eq_true rfl⟩) hK hP [] rfl rfl hl.1 rfl (Nat.le_of_ble_eq_true rfl) dX5_cutBy_20 ⟨Nat.zero_le _, Nat.zero_le _⟩ (fun r20 h20 => ?_)
        subst h20
        refine zcSl (As := [.long (perL (cutF k_ n_) i_), .int (nI i_), .int (nI (cutF k_ n_ i_))]) (rest := []) ⟨hx, hb, hml, hown, hts⟩ (c_X3_with l D cy (perL (cutF k_ n_) i_) i_ (cutF k_ n_ i_) (by omega) (Nat.lt_of_lt_of_le (cutF_lt (Nat.le_of_lt hk) (by omega)) hn)) (va_cwS 3 hts (zG_S zw_276 zw_224 zw_119 zw_225) rfl rfl rfl zd_X3_with ⟨Nat.le_of_ble_eq_true rfl, Nat.le_of_ble_eq_true rfl⟩) hK hP [] rfl rfl hl.1 rfl (Nat.le_of_ble_eq_true rfl) dX5_cutBy_23 ⟨Nat.zero_le _, Nat.zero_le _⟩ (fun r23 h23 => ?_)
        subst h23
        refine zl_top (v := perL (cutF k_ n_) (i_ + 1)) (perL_s (g := (cutF k_ n_)) (by omega) (Nat.lt_of_lt_of_le (cutF_lt (Nat.le_of_lt hk) (by omega)) hn)) ?_
        refine lv_lstore_n (lv' := [(2, .long (perL (cutF k_ n_) (i_ + 1))), (0, .int (nI k_)), (1, .int (nI n_)), (4, .int (nI i_))]) hx hb dX5_cutBy_26 rfl hl (by decide) rfl (fun ls hl => ?_)
        refine lv_iinc (v := nI (i_ + 1)) (lv' := [(4, .int (nI (i_ + 1))), (2, .long (perL (cutF k_ n_) (i_ + 1))), (0, .int (nI k_)), (1, .int (nI n_))]) hx hb dX5_cutBy_27 hl (k := 3) rfl (nI_1 _) (by decide) rfl (fun ls hl => ?_)
        refine lv_goto (tgt := 7) hx hb dX5_cutBy_30 (by decide) ?_
        exact ih7 (i_ + 1) (by omega) (by omega) _ (lv_sub hl [2, 3, 1, 0] rfl)
  exact L7 (n_ - 0 + 1) 0 (by omega) (Nat.lt_succ_self _) _ (lv_sub hl [2, 3, 1, 0] rfl)
abbrev w_X5_stepBy : List Cond := Cond.code yX5_stepBy cX5_stepBy 5 (some .long) :: zAll
abbrev r_X5_stepBy : Room := { frames := 2, cells := 0, slots := 0, locals := 46 }
theorem zd_X5_stepBy : yX5_stepBy.cls ≠ "java/lang/invoke/MethodHandle" ∧ yX5_stepBy.cls ≠ "java/lang/invoke/VarHandle" ∧ (parseMethodDescriptor yX5_stepBy.desc).map (fun d => d.parameters.length) = some 2 := by decide +kernel
set_option maxHeartbeats 4000000 in
set_option maxRecDepth 100000 in
theorem c_X5_stepBy (l : Launch) (D : va_G) (cy : Nat → ClassId) (t_ : Nat) (n_ : Nat) (ht : t_ < 4) (hn : n_ ≤ 16) : zMl l yX5_stepBy w_X5_stepBy r_X5_stepBy D cy [] [.int (nI t_), .int (nI n_)] (fun r_ => r_ = (perL (stepF t_ n_) n_)) := by
  refine zOfRl (cc := cX5_stepBy) (maxL := 5) (by decide) rfl (Nat.le_of_ble_eq_true rfl) ?_
  intro zp ze zs zm za zb zme zc hx hb hml hts hown hP hK Q kr ls hl
  have hown : zs.vm.findClass RX5 = some zm.cls := hown
  have hl : lv_has ls 5 [(0, .int (nI t_)), (1, .int (nI n_))] := hl
  refine lv_ldc2 hx hb hown (hts _ (List.mem_cons_of_mem _ zw_272)) dX5_stepBy_0 ?_
  refine zl_top (v := perL (stepF t_ n_) 0) (stay_perL _) ?_
  refine lv_lstore_n (lv' := [(2, .long (perL (stepF t_ n_) 0)), (0, .int (nI t_)), (1, .int (nI n_))]) hx hb dX5_stepBy_3 rfl hl (by decide) rfl (fun ls hl => ?_)
  refine lv_iconst (v := nI 0) hx hb dX5_stepBy_4 (by decide) ?_
  refine lv_istore (lv' := [(4, .int (nI 0)), (2, .long (perL (stepF t_ n_) 0)), (0, .int (nI t_)), (1, .int (nI n_))]) hx hb dX5_stepBy_5 hl (by decide) rfl (fun ls hl => ?_)
  have L7 : ∀ (kf_ : Nat) (i_ : Nat) (hi : i_ ≤ n_), n_ - i_ < kf_ → ∀ ls : Array Slot, lv_has ls 5 [(0, .int (nI t_)), (1, .int (nI n_)), (2, .long (perL (stepF t_ n_) i_)), (4, .int (nI i_))] → W zp l ze r_X5_stepBy zs zm za zb zme zc zs.heap [] 0 0 Q (F0 zm 7 ls []) := by
    intro kf_
    induction kf_ with
    | zero => intro i_ hi hk_; exact absurd hk_ (Nat.not_lt_zero _)
    | succ kf_ ih7 =>
      intro i_ hi hk_ ls hl
      refine lv_iload hx hb dX5_stepBy_7 (lv_at hl 3 rfl) ?_
      refine lv_iload_n hx hb dX5_stepBy_9 rfl (lv_at hl 1 rfl) ?_
      refine zb_ge (a := i_) (b := n_) (tgt := 33) hx hb dX5_stepBy_10 (by decide) (by omega) (by omega) (fun c10 => ?_) (fun c10 => ?_)
      · skip
        refine lv_lload_n hx hb dX5_stepBy_33 rfl (lv_at hl 2 rfl) ?_
        exact kr _ _ _ dX5_stepBy_34 (by rw [show i_ = n_ by omega])
      · skip
        refine lv_lload_n hx hb dX5_stepBy_13 rfl (lv_at hl 2 rfl) ?_
        refine lv_iload hx hb dX5_stepBy_14 (lv_at hl 3 rfl) ?_
        refine lv_iload_n hx hb dX5_stepBy_16 rfl (lv_at hl 0 rfl) ?_
        refine lv_iload hx hb dX5_stepBy_17 (lv_at hl 3 rfl) ?_
        refine lv_iload_n hx hb dX5_stepBy_19 rfl (lv_at hl 1 rfl) ?_
        refine zcSi (As := [.int (nI t_), .int (nI i_), .int (nI n_)]) (rest := [.int (nI i_), .long (perL (stepF t_ n_) i_)]) ⟨hx, hb, hml, hown, hts⟩ (c_X5_stepTo l D cy t_ i_ n_ (by omega) (by omega) (by omega)) (va_cwS 3 hts (zG_S zw_284 zw_285 zw_270 zw_286) rfl rfl rfl zd_X5_stepTo ⟨Nat.le_of_ble_eq_true rfl, Nat.le_of_ble_eq_true rfl⟩) hK hP [] rfl rfl hl.1 rfl (Nat.le_of_ble_eq_true rfl) dX5_stepBy_20 ⟨Nat.zero_le _, Nat.zero_le _⟩ (fun r20 h20 => ?_)
        subst h20
        refine zcSl (As := [.long (perL (stepF t_ n_) i_), .int (nI i_), .int (nI (stepF t_ n_ i_))]) (rest := []) ⟨hx, hb, hml, hown, hts⟩ (c_X3_with l D cy (perL (stepF t_ n_) i_) i_ (stepF t_ n_ i_) (by omega) (Nat.lt_of_lt_of_le (stepF_lt (by omega)) hn)) (va_cwS 3 hts (zG_S zw_276 zw_224 zw_119 zw_225) rfl rfl rfl zd_X3_with ⟨Nat.le_of_ble_eq_true rfl, Nat.le_of_ble_eq_true rfl⟩) hK hP [] rfl rfl hl.1 rfl (Nat.le_of_ble_eq_true rfl) dX5_stepBy_23 ⟨Nat.zero_le _, Nat.zero_le _⟩ (fun r23 h23 => ?_)
        subst h23
        refine zl_top (v := perL (stepF t_ n_) (i_ + 1)) (perL_s (g := (stepF t_ n_)) (by omega) (Nat.lt_of_lt_of_le (stepF_lt (by omega)) hn)) ?_
        refine lv_lstore_n (lv' := [(2, .long (perL (stepF t_ n_) (i_ + 1))), (0, .int (nI t_)), (1, .int (nI n_)), (4, .int (nI i_))]) hx hb dX5_stepBy_26 rfl hl (by decide) rfl (fun ls hl => ?_)
        refine lv_iinc (v := nI (i_ + 1)) (lv' := [(4, .int (nI (i_ + 1))), (2, .long (perL (stepF t_ n_) (i_ + 1))), (0, .int (nI t_)), (1, .int (nI n_))]) hx hb dX5_stepBy_27 hl (k := 3) rfl (nI_1 _) (by decide) rfl (fun ls hl => ?_)
        refine lv_goto (tgt := 7) hx hb dX5_stepBy_30 (by decide) ?_
        exact ih7 (i_ + 1) (by omega) (by omega) _ (lv_sub hl [2, 3, 1, 0] rfl)
  exact L7 (n_ - 0 + 1) 0 (by omega) (Nat.lt_succ_self _) _ (lv_sub hl [2, 3, 1, 0] rfl)
abbrev w_X5_becomesBy : List Cond := Cond.code yX5_becomesBy cX5_becomesBy 7 (some .long) :: zAll
abbrev r_X5_becomesBy : Room := { frames := 1, cells := 0, slots := 0, locals := 25 }
theorem zd_X5_becomesBy : yX5_becomesBy.cls ≠ "java/lang/invoke/MethodHandle" ∧ yX5_becomesBy.cls ≠ "java/lang/invoke/VarHandle" ∧ (parseMethodDescriptor yX5_becomesBy.desc).map (fun d => d.parameters.length) = some 3 := by decide +kernel
set_option maxHeartbeats 4000000 in
set_option maxRecDepth 100000 in
theorem c_X5_becomesBy (l : Launch) (D : va_G) (cy : Nat → ClassId) (x_ : Int64) (k_ : Nat) (n_ : Nat) (hw : WF n_ x_) (hk : k_ < n_) (hn : n_ ≤ 16) : zMl l yX5_becomesBy w_X5_becomesBy r_X5_becomesBy D cy [] [.long x_, .int (nI k_), .int (nI n_)] (fun r_ => r_ = (becL x_ k_ n_)) := by
  refine zOfRl (cc := cX5_becomesBy) (maxL := 7) (by decide) rfl (Nat.le_of_ble_eq_true rfl) ?_
  intro zp ze zs zm za zb zme zc hx hb hml hts hown hP hK Q kr ls hl
  have hown : zs.vm.findClass RX5 = some zm.cls := hown
  have hl : lv_has ls 7 [(0, .long x_), (2, .int (nI k_)), (3, .int (nI n_))] := hl
  refine lv_ldc2 hx hb hown (hts _ (List.mem_cons_of_mem _ zw_272)) dX5_becomesBy_0 ?_
  refine zl_top (v := pk (becF x_ k_ n_ 0)) (bec_0 _ _ _) ?_
  refine lv_lstore (lv' := [(4, .long (pk (becF x_ k_ n_ 0))), (0, .long x_), (2, .int (nI k_)), (3, .int (nI n_))]) hx hb dX5_becomesBy_3 hl (by decide) rfl (fun ls hl => ?_)
  refine lv_iconst (v := nI 0) hx hb dX5_becomesBy_5 (by decide) ?_
  refine lv_istore (lv' := [(6, .int (nI 0)), (4, .long (pk (becF x_ k_ n_ 0))), (0, .long x_), (2, .int (nI k_)), (3, .int (nI n_))]) hx hb dX5_becomesBy_6 hl (by decide) rfl (fun ls hl => ?_)
  have L8 : ∀ (kf_ : Nat) (i_ : Nat) (hi : i_ ≤ n_), n_ - i_ < kf_ → ∀ ls : Array Slot, lv_has ls 7 [(0, .long x_), (2, .int (nI k_)), (3, .int (nI n_)), (4, .long (pk (becF x_ k_ n_ i_))), (6, .int (nI i_))] → W zp l ze r_X5_becomesBy zs zm za zb zme zc zs.heap [] 0 0 Q (F0 zm 8 ls []) := by
    intro kf_
    induction kf_ with
    | zero => intro i_ hi hk_; exact absurd hk_ (Nat.not_lt_zero _)
    | succ kf_ ih8 =>
      intro i_ hi hk_ ls hl
      refine lv_iload hx hb dX5_becomesBy_8 (lv_at hl 4 rfl) ?_
      refine lv_iload_n hx hb dX5_becomesBy_10 rfl (lv_at hl 2 rfl) ?_
      refine zb_ge (a := i_) (b := n_) (tgt := 45) hx hb dX5_becomesBy_11 (by decide) (by omega) (by omega) (fun c11 => ?_) (fun c11 => ?_)
      · skip
        refine lv_lload hx hb dX5_becomesBy_45 (lv_at hl 3 rfl) ?_
        exact kr _ _ _ dX5_becomesBy_47 (by rw [show i_ = n_ by omega]; rfl)
      · skip
        have hx14 : nb x_ i_ < n_ := hw.lt (by omega) hn
        have hc14 : cutF k_ n_ i_ < n_ := cutF_lt (Nat.le_of_lt hk) (by omega)
        have hd14 : cutF k_ n_ (nb x_ i_) < n_ := cutF_lt (Nat.le_of_lt hk) hx14
        refine lv_lload hx hb dX5_becomesBy_14 (lv_at hl 3 rfl) ?_
        refine lv_iload_n hx hb dX5_becomesBy_16 rfl (lv_at hl 1 rfl) ?_
        refine lv_iload hx hb dX5_becomesBy_17 (lv_at hl 4 rfl) ?_
        refine lv_iload_n hx hb dX5_becomesBy_19 rfl (lv_at hl 2 rfl) ?_
        refine zcSi (As := [.int (nI k_), .int (nI i_), .int (nI n_)]) (rest := [.long (pk (becF x_ k_ n_ i_))]) ⟨hx, hb, hml, hown, hts⟩ (c_X5_cutTo l D cy k_ i_ n_ (by omega) (by omega) (by omega)) (va_cwS 3 hts (zG_S zw_273 zw_274 zw_270 zw_275) rfl rfl rfl zd_X5_cutTo ⟨Nat.le_of_ble_eq_true rfl, Nat.le_of_ble_eq_true rfl⟩) hK hP [] rfl rfl hl.1 rfl (Nat.le_of_ble_eq_true rfl) dX5_becomesBy_20 ⟨Nat.zero_le _, Nat.zero_le _⟩ (fun r20 h20 => ?_)
        subst h20
        refine lv_iload_n hx hb dX5_becomesBy_23 rfl (lv_at hl 1 rfl) ?_
        refine lv_lload_n hx hb dX5_becomesBy_24 rfl (lv_at hl 0 rfl) ?_
        refine lv_iload hx hb dX5_becomesBy_25 (lv_at hl 4 rfl) ?_
        refine zcSi (As := [.long x_, .int (nI i_)]) (rest := [.int (nI k_), .int (nI (cutF k_ n_ i_)), .long (pk (becF x_ k_ n_ i_))]) ⟨hx, hb, hml, hown, hts⟩ (c_X3_to l D cy x_ i_ (by omega)) (va_cwS 2 hts (zG_S zw_334 zw_122 zw_119 zw_123) rfl rfl rfl zd_X3_to ⟨Nat.le_of_ble_eq_true rfl, Nat.le_of_ble_eq_true rfl⟩) hK hP [] rfl rfl hl.1 rfl (Nat.le_of_ble_eq_true rfl) dX5_becomesBy_27 ⟨Nat.zero_le _, Nat.zero_le _⟩ (fun r27 h27 => ?_)
        subst h27
        refine lv_iload_n hx hb dX5_becomesBy_30 rfl (lv_at hl 2 rfl) ?_
        refine zcSi (As := [.int (nI k_), .int (nI (nb x_ i_)), .int (nI n_)]) (rest := [.int (nI (cutF k_ n_ i_)), .long (pk (becF x_ k_ n_ i_))]) ⟨hx, hb, hml, hown, hts⟩ (c_X5_cutTo l D cy k_ (nb x_ i_) n_ (by omega) (by omega) (by omega)) (va_cwS 3 hts (zG_S zw_273 zw_274 zw_270 zw_275) rfl rfl rfl zd_X5_cutTo ⟨Nat.le_of_ble_eq_true rfl, Nat.le_of_ble_eq_true rfl⟩) hK hP [] rfl rfl hl.1 rfl (Nat.le_of_ble_eq_true rfl) dX5_becomesBy_31 ⟨Nat.zero_le _, Nat.zero_le _⟩ (fun r31 h31 => ?_)
        subst h31
        refine zcSl (As := [.long (pk (becF x_ k_ n_ i_)), .int (nI (cutF k_ n_ i_)), .int (nI (cutF k_ n_ (nb x_ i_)))]) (rest := []) ⟨hx, hb, hml, hown, hts⟩ (c_X3_with l D cy (pk (becF x_ k_ n_ i_)) (cutF k_ n_ i_) (cutF k_ n_ (nb x_ i_)) (by omega) (by omega)) (va_cwS 3 hts (zG_S zw_276 zw_224 zw_119 zw_225) rfl rfl rfl zd_X3_with ⟨Nat.le_of_ble_eq_true rfl, Nat.le_of_ble_eq_true rfl⟩) hK hP [] rfl rfl hl.1 rfl (Nat.le_of_ble_eq_true rfl) dX5_becomesBy_34 ⟨Nat.zero_le _, Nat.zero_le _⟩ (fun r34 h34 => ?_)
        subst h34
        refine zl_top (v := pk (becF x_ k_ n_ (i_ + 1))) (bec_s hw hn hk (by omega)) ?_
        refine lv_lstore (lv' := [(4, .long (pk (becF x_ k_ n_ (i_ + 1)))), (0, .long x_), (2, .int (nI k_)), (3, .int (nI n_)), (6, .int (nI i_))]) hx hb dX5_becomesBy_37 hl (by decide) rfl (fun ls hl => ?_)
        refine lv_iinc (v := nI (i_ + 1)) (lv' := [(6, .int (nI (i_ + 1))), (4, .long (pk (becF x_ k_ n_ (i_ + 1)))), (0, .long x_), (2, .int (nI k_)), (3, .int (nI n_))]) hx hb dX5_becomesBy_39 hl (k := 4) rfl (nI_1 _) (by decide) rfl (fun ls hl => ?_)
        refine lv_goto (tgt := 8) hx hb dX5_becomesBy_42 (by decide) ?_
        exact ih8 (i_ + 1) (by omega) (by omega) _ (lv_sub hl [2, 3, 4, 1, 0] rfl)
  exact L8 (n_ - 0 + 1) 0 (by omega) (Nat.lt_succ_self _) _ (lv_sub hl [2, 3, 4, 1, 0] rfl)

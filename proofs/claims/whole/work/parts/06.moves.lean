abbrev w_X3_to : List Cond := Cond.code yX3_to cX3_to 3 (some .int) :: zAll
abbrev r_X3_to : Room := { frames := 0, cells := 0, slots := 0, locals := 0 }
theorem zd_X3_to : yX3_to.cls ≠ "java/lang/invoke/MethodHandle" ∧ yX3_to.cls ≠ "java/lang/invoke/VarHandle" ∧ (parseMethodDescriptor yX3_to.desc).map (fun d => d.parameters.length) = some 2 := by decide +kernel
set_option maxHeartbeats 4000000 in
set_option maxRecDepth 100000 in
theorem c_X3_to (l : Launch) (D : va_G) (cy : Nat → ClassId) (x_ : Int64) (p_ : Nat) (hp : p_ < 16) : zMi l yX3_to w_X3_to r_X3_to D cy [] [.long x_, .int (nI p_)] (fun r_ => r_ = nI (nb x_ p_)) := by
  refine zOfR (cc := cX3_to) (maxL := 3) (ty := .int) (by decide) rfl (Nat.le_of_ble_eq_true rfl) ?_
  intro zp ze zs zm za zb zme zc hx hb hml hts hown hP hK Q kr ls hl
  have hown : zs.vm.findClass RX3 = some zm.cls := hown
  have hl : lv_has ls 3 [(0, .long x_), (2, .int (nI p_))] := hl
  refine lv_lload_n hx hb dX3_to_0 rfl (lv_at hl 0 rfl) ?_
  refine lv_iconst (v := nI 4) hx hb dX3_to_1 (by decide) ?_
  refine lv_iload_n hx hb dX3_to_2 rfl (lv_at hl 1 rfl) ?_
  refine zi_mul (v := nI (4 * p_)) hx hb dX3_to_3 (pk_mul _ _) ?_
  refine lv_lushr (v := (x_.toUInt64 >>> ((nI (4 * p_)).toInt64.toUInt64 &&& Int64.toUInt64 63)).toInt64) hx hb dX3_to_4 rfl ?_
  refine lv_l2i (v := (x_.toUInt64 >>> ((nI (4 * p_)).toInt64.toUInt64 &&& Int64.toUInt64 63)).toInt64.toInt32) hx hb dX3_to_5 rfl ?_
  refine lv_bipush (v := nI 15) hx hb dX3_to_6 (by decide) ?_
  refine zi_and (v := nI (nb x_ p_)) hx hb dX3_to_8 (nb_to x_ hp) ?_
  exact kr _ _ _ dX3_to_9 (vp_nar_int _) rfl

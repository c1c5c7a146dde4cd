abbrev w_L_low : List Cond := Cond.code yL_low cL_low 2 (some .int) :: zAll
abbrev r_L_low : Room := { frames := 0, cells := 0, slots := 0, locals := 0 }
theorem zd_L_low : yL_low.cls ≠ "java/lang/invoke/MethodHandle" ∧ yL_low.cls ≠ "java/lang/invoke/VarHandle" ∧ (parseMethodDescriptor yL_low.desc).map (fun d => d.parameters.length) = some 2 := by decide +kernel
set_option maxHeartbeats 4000000 in
set_option maxRecDepth 100000 in
theorem c_L_low (l : Launch) (D : va_G) (cy : Nat → ClassId) (v_ : Int32) (n_ : Nat) (h0 : 0 < n_) (hn : n_ < 2 ^ 31) : zMi l yL_low w_L_low r_L_low D cy [] [.int v_, .int (nI n_)] (fun r_ => r_ = (nI (loN v_ n_))) := by
  refine zOfR (cc := cL_low) (maxL := 2) (ty := .int) (by decide) rfl (Nat.le_of_ble_eq_true rfl) ?_
  intro zp ze zs zm za zb zme zc hx hb hml hts hown hP hK Q kr ls hl
  have hown : zs.vm.findClass RL = some zm.cls := hown
  have hl : lv_has ls 2 [(0, .int v_), (1, .int (nI n_))] := hl
  refine lv_iload_n hx hb dL_low_0 rfl (lv_at hl 0 rfl) ?_
  refine lv_ldc hx hb hown (hts _ (List.mem_cons_of_mem _ zw_203)) dL_low_1 ?_
  refine zi_top (v := nI 2147483647) (fa_lit _) ?_
  refine zi_and (v := nI (v_.toBitVec.toNat % 2 ^ 31)) hx hb dL_low_3 (and_lo v_) ?_
  refine lv_iload_n hx hb dL_low_4 rfl (lv_at hl 1 rfl) ?_
  refine zi_rem (v := nI ((v_.toBitVec.toNat % 2 ^ 31) % n_)) hx hb dL_low_5 (nI_ne0 (by omega) (by omega)) (pk_rem (by omega) (by omega) (by omega)) ?_
  exact kr _ _ _ dL_low_6 (vp_nar_int _) rfl

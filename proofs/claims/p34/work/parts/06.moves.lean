abbrev w_J9_floorMod_7cf53 : List Cond := Cond.code yJ9_floorMod_7cf53 cJ9_floorMod_7cf53 3 (some .int) :: zAll
abbrev r_J9_floorMod_7cf53 : Room := { frames := 0, cells := 0, slots := 0, locals := 0 }
theorem zd_J9_floorMod_7cf53 : yJ9_floorMod_7cf53.cls ≠ "java/lang/invoke/MethodHandle" ∧ yJ9_floorMod_7cf53.cls ≠ "java/lang/invoke/VarHandle" ∧ (parseMethodDescriptor yJ9_floorMod_7cf53.desc).map (fun d => d.parameters.length) = some 2 := by decide +kernel
set_option maxHeartbeats 4000000 in
set_option maxRecDepth 100000 in
theorem c_J9_floorMod_7cf53 (l : Launch) (D : va_G) (cy : Nat → ClassId) (x_ : Int32) (L_ : Nat) (h0 : 0 < L_) (hL : L_ < 2 ^ 31) : zMi l yJ9_floorMod_7cf53 w_J9_floorMod_7cf53 r_J9_floorMod_7cf53 D cy [] [.int x_, .int (nI L_)] (fun r_ => r_ = (nI ((x_.toInt % (L_ : Int)).toNat))) := by
  refine zOfRF (cc := cJ9_floorMod_7cf53) (maxL := 3) (ty := .int) (by decide +kernel) rfl (Nat.le_of_ble_eq_true rfl) ?_
  intro zp ze zs zm za zb zme zc hx hb hml hts hown hP hK Q kr ls hl
  have hown : zs.vm.findClass RJ9 = some zm.cls := hown
  have hl : lv_has ls 3 [(0, .int x_), (1, .int (nI L_))] := hl
  refine lv_iload_n hx hb dJ9_floorMod_7cf53_0 rfl (lv_at hl 0 rfl) ?_
  refine lv_iload_n hx hb dJ9_floorMod_7cf53_1 rfl (lv_at hl 1 rfl) ?_
  refine zi_rem (v := Int32.ofInt (x_.toInt.tmod (L_ : Int))) hx hb dJ9_floorMod_7cf53_2 (nI_ne0 h0 hL) (zz_rem h0 hL) ?_
  refine lv_istore_n (lv' := [(2, .int (Int32.ofInt (x_.toInt.tmod (L_ : Int)))), (0, .int x_), (1, .int (nI L_))]) hx hb dJ9_floorMod_7cf53_3 rfl hl (by decide) rfl (fun ls hl => ?_)
  refine lv_iload_n hx hb dJ9_floorMod_7cf53_4 rfl (lv_at hl 1 rfl) ?_
  refine lv_iload_n hx hb dJ9_floorMod_7cf53_5 rfl (lv_at hl 2 rfl) ?_
  refine zi_xor (v := x_ ^^^ (nI L_)) hx hb dJ9_floorMod_7cf53_6 rfl ?_
  refine zt0_ge (a := (x_ ^^^ (nI L_)).toInt) (tgt := 18) hx hb dJ9_floorMod_7cf53_7 (by decide) rfl (fun c7 => ?_) (fun c7 => ?_)
  · skip
    refine lv_iload_n hx hb dJ9_floorMod_7cf53_18 rfl (lv_at hl 0 rfl) ?_
    exact kr _ _ _ dJ9_floorMod_7cf53_19 (vp_nar_int _) (zz_fm1 h0 hL (Or.inl (Int.not_lt.mp (fun q_ => absurd ((zz_xor hL).mpr q_) (by omega)))))
  · skip
    refine lv_iload_n hx hb dJ9_floorMod_7cf53_10 rfl (lv_at hl 0 rfl) ?_
    refine zt0_eq (a := x_.toInt.tmod (L_ : Int)) (tgt := 18) hx hb dJ9_floorMod_7cf53_11 (by decide) (by rw [← zz_rem h0 hL]; exact zz_remI h0 hL) (fun c11 => ?_) (fun c11 => ?_)
    · skip
      refine lv_iload_n hx hb dJ9_floorMod_7cf53_18 rfl (lv_at hl 0 rfl) ?_
      exact kr _ _ _ dJ9_floorMod_7cf53_19 (vp_nar_int _) (zz_fm1 h0 hL (Or.inr c11))
    · skip
      refine lv_iload_n hx hb dJ9_floorMod_7cf53_14 rfl (lv_at hl 0 rfl) ?_
      refine lv_iload_n hx hb dJ9_floorMod_7cf53_15 rfl (lv_at hl 2 rfl) ?_
      refine zi_add (v := (Int32.ofInt (x_.toInt.tmod (L_ : Int))) + (nI L_)) hx hb dJ9_floorMod_7cf53_16 rfl ?_
      exact kr _ _ _ dJ9_floorMod_7cf53_17 (vp_nar_int _) (zz_fm2 h0 hL ((zz_xor hL).mp c7) c11)
abbrev w_J6_bitCount_0f7a4 : List Cond := Cond.code yJ6_bitCount_0f7a4 cJ6_bitCount_0f7a4 1 (some .int) :: zAll
abbrev r_J6_bitCount_0f7a4 : Room := { frames := 0, cells := 0, slots := 0, locals := 0 }
theorem zd_J6_bitCount_0f7a4 : yJ6_bitCount_0f7a4.cls ≠ "java/lang/invoke/MethodHandle" ∧ yJ6_bitCount_0f7a4.cls ≠ "java/lang/invoke/VarHandle" ∧ (parseMethodDescriptor yJ6_bitCount_0f7a4.desc).map (fun d => d.parameters.length) = some 1 := by decide +kernel
set_option maxHeartbeats 4000000 in
set_option maxRecDepth 100000 in
theorem c_J6_bitCount_0f7a4 (l : Launch) (D : va_G) (cy : Nat → ClassId) (m_ : Nat) (hm : m_ < 65536) : zMi l yJ6_bitCount_0f7a4 w_J6_bitCount_0f7a4 r_J6_bitCount_0f7a4 D cy [] [.int (nI m_)] (fun r_ => r_ = (nI (popN m_))) := by
  refine zOfRF (cc := cJ6_bitCount_0f7a4) (maxL := 1) (ty := .int) (by decide +kernel) rfl (Nat.le_of_ble_eq_true rfl) ?_
  intro zp ze zs zm za zb zme zc hx hb hml hts hown hP hK Q kr ls hl
  have hown : zs.vm.findClass RJ6 = some zm.cls := hown
  have hl : lv_has ls 1 [(0, .int (nI m_))] := hl
  refine lv_iload_n hx hb dJ6_bitCount_0f7a4_0 rfl (lv_at hl 0 rfl) ?_
  refine lv_iload_n hx hb dJ6_bitCount_0f7a4_1 rfl (lv_at hl 0 rfl) ?_
  refine lv_iconst (v := nI 1) hx hb dJ6_bitCount_0f7a4_2 (by decide) ?_
  refine lv_iushr (v := nI (m_ / 2 ^ 1)) hx hb dJ6_bitCount_0f7a4_3 (pk_ushrN (pop_b1 hm) _ 1 (s_u 1 (by decide))) ?_
  refine lv_ldcw hx hb hown (hts _ (List.mem_cons_of_mem _ zw_132)) dJ6_bitCount_0f7a4_4 ?_
  refine zi_top (v := nI 1431655765) (fa_lit _) ?_
  refine zi_and (v := nI ((m_ / 2 ^ 1) &&& 1431655765)) hx hb dJ6_bitCount_0f7a4_7 (fa_and _ _) ?_
  refine zi_sub (v := nI (m_ - ((m_ / 2 ^ 1) &&& 1431655765))) hx hb dJ6_bitCount_0f7a4_8 (pk_sub (pop_le m_)) ?_
  refine lv_istore_n (lv' := [(0, .int (nI (m_ - ((m_ / 2 ^ 1) &&& 1431655765))))]) hx hb dJ6_bitCount_0f7a4_9 rfl hl (by decide) rfl (fun ls hl => ?_)
  refine lv_iload_n hx hb dJ6_bitCount_0f7a4_10 rfl (lv_at hl 0 rfl) ?_
  refine lv_ldcw hx hb hown (hts _ (List.mem_cons_of_mem _ zw_133)) dJ6_bitCount_0f7a4_11 ?_
  refine zi_top (v := nI 858993459) (fa_lit _) ?_
  refine zi_and (v := nI ((m_ - ((m_ / 2 ^ 1) &&& 1431655765)) &&& 858993459)) hx hb dJ6_bitCount_0f7a4_14 (fa_and _ _) ?_
  refine lv_iload_n hx hb dJ6_bitCount_0f7a4_15 rfl (lv_at hl 0 rfl) ?_
  refine lv_iconst (v := nI 2) hx hb dJ6_bitCount_0f7a4_16 (by decide) ?_
  refine lv_iushr (v := nI ((m_ - ((m_ / 2 ^ 1) &&& 1431655765)) / 2 ^ 2)) hx hb dJ6_bitCount_0f7a4_17 (pk_ushrN (pop_b2 hm) _ 2 (s_u 2 (by decide))) ?_
  refine lv_ldcw hx hb hown (hts _ (List.mem_cons_of_mem _ zw_133)) dJ6_bitCount_0f7a4_18 ?_
  refine zi_top (v := nI 858993459) (fa_lit _) ?_
  refine zi_and (v := nI (((m_ - ((m_ / 2 ^ 1) &&& 1431655765)) / 2 ^ 2) &&& 858993459)) hx hb dJ6_bitCount_0f7a4_21 (fa_and _ _) ?_
  refine zi_add (v := nI (((m_ - ((m_ / 2 ^ 1) &&& 1431655765)) &&& 858993459) + (((m_ - ((m_ / 2 ^ 1) &&& 1431655765)) / 2 ^ 2) &&& 858993459))) hx hb dJ6_bitCount_0f7a4_22 (nI_add _ _) ?_
  refine lv_istore_n (lv' := [(0, .int (nI (((m_ - ((m_ / 2 ^ 1) &&& 1431655765)) &&& 858993459) + (((m_ - ((m_ / 2 ^ 1) &&& 1431655765)) / 2 ^ 2) &&& 858993459))))]) hx hb dJ6_bitCount_0f7a4_23 rfl hl (by decide) rfl (fun ls hl => ?_)
  refine lv_iload_n hx hb dJ6_bitCount_0f7a4_24 rfl (lv_at hl 0 rfl) ?_
  refine lv_iload_n hx hb dJ6_bitCount_0f7a4_25 rfl (lv_at hl 0 rfl) ?_
  refine lv_iconst (v := nI 4) hx hb dJ6_bitCount_0f7a4_26 (by decide) ?_
  refine lv_iushr (v := nI ((((m_ - ((m_ / 2 ^ 1) &&& 1431655765)) &&& 858993459) + (((m_ - ((m_ / 2 ^ 1) &&& 1431655765)) / 2 ^ 2) &&& 858993459)) / 2 ^ 4)) hx hb dJ6_bitCount_0f7a4_27 (pk_ushrN (pop_b3 hm) _ 4 (s_u 4 (by decide))) ?_
  refine zi_add (v := nI ((((m_ - ((m_ / 2 ^ 1) &&& 1431655765)) &&& 858993459) + (((m_ - ((m_ / 2 ^ 1) &&& 1431655765)) / 2 ^ 2) &&& 858993459)) + ((((m_ - ((m_ / 2 ^ 1) &&& 1431655765)) &&& 858993459) + (((m_ - ((m_ / 2 ^ 1) &&& 1431655765)) / 2 ^ 2) &&& 858993459)) / 2 ^ 4))) hx hb dJ6_bitCount_0f7a4_28 (nI_add _ _) ?_
  refine lv_ldcw hx hb hown (hts _ (List.mem_cons_of_mem _ zw_134)) dJ6_bitCount_0f7a4_29 ?_
  refine zi_top (v := nI 252645135) (fa_lit _) ?_
  refine zi_and (v := nI (((((m_ - ((m_ / 2 ^ 1) &&& 1431655765)) &&& 858993459) + (((m_ - ((m_ / 2 ^ 1) &&& 1431655765)) / 2 ^ 2) &&& 858993459)) + ((((m_ - ((m_ / 2 ^ 1) &&& 1431655765)) &&& 858993459) + (((m_ - ((m_ / 2 ^ 1) &&& 1431655765)) / 2 ^ 2) &&& 858993459)) / 2 ^ 4)) &&& 252645135)) hx hb dJ6_bitCount_0f7a4_32 (fa_and _ _) ?_
  refine lv_istore_n (lv' := [(0, .int (nI (((((m_ - ((m_ / 2 ^ 1) &&& 1431655765)) &&& 858993459) + (((m_ - ((m_ / 2 ^ 1) &&& 1431655765)) / 2 ^ 2) &&& 858993459)) + ((((m_ - ((m_ / 2 ^ 1) &&& 1431655765)) &&& 858993459) + (((m_ - ((m_ / 2 ^ 1) &&& 1431655765)) / 2 ^ 2) &&& 858993459)) / 2 ^ 4)) &&& 252645135)))]) hx hb dJ6_bitCount_0f7a4_33 rfl hl (by decide) rfl (fun ls hl => ?_)
  refine lv_iload_n hx hb dJ6_bitCount_0f7a4_34 rfl (lv_at hl 0 rfl) ?_
  refine lv_iload_n hx hb dJ6_bitCount_0f7a4_35 rfl (lv_at hl 0 rfl) ?_
  refine lv_bipush (v := nI 8) hx hb dJ6_bitCount_0f7a4_36 (by decide) ?_
  refine lv_iushr (v := nI ((((((m_ - ((m_ / 2 ^ 1) &&& 1431655765)) &&& 858993459) + (((m_ - ((m_ / 2 ^ 1) &&& 1431655765)) / 2 ^ 2) &&& 858993459)) + ((((m_ - ((m_ / 2 ^ 1) &&& 1431655765)) &&& 858993459) + (((m_ - ((m_ / 2 ^ 1) &&& 1431655765)) / 2 ^ 2) &&& 858993459)) / 2 ^ 4)) &&& 252645135) / 2 ^ 8)) hx hb dJ6_bitCount_0f7a4_38 (pk_ushrN (pop_b4 _) _ 8 (s_u 8 (by decide))) ?_
  refine zi_add (v := nI ((((((m_ - ((m_ / 2 ^ 1) &&& 1431655765)) &&& 858993459) + (((m_ - ((m_ / 2 ^ 1) &&& 1431655765)) / 2 ^ 2) &&& 858993459)) + ((((m_ - ((m_ / 2 ^ 1) &&& 1431655765)) &&& 858993459) + (((m_ - ((m_ / 2 ^ 1) &&& 1431655765)) / 2 ^ 2) &&& 858993459)) / 2 ^ 4)) &&& 252645135) + ((((((m_ - ((m_ / 2 ^ 1) &&& 1431655765)) &&& 858993459) + (((m_ - ((m_ / 2 ^ 1) &&& 1431655765)) / 2 ^ 2) &&& 858993459)) + ((((m_ - ((m_ / 2 ^ 1) &&& 1431655765)) &&& 858993459) + (((m_ - ((m_ / 2 ^ 1) &&& 1431655765)) / 2 ^ 2) &&& 858993459)) / 2 ^ 4)) &&& 252645135) / 2 ^ 8))) hx hb dJ6_bitCount_0f7a4_39 (nI_add _ _) ?_
  refine lv_istore_n (lv' := [(0, .int (nI ((((((m_ - ((m_ / 2 ^ 1) &&& 1431655765)) &&& 858993459) + (((m_ - ((m_ / 2 ^ 1) &&& 1431655765)) / 2 ^ 2) &&& 858993459)) + ((((m_ - ((m_ / 2 ^ 1) &&& 1431655765)) &&& 858993459) + (((m_ - ((m_ / 2 ^ 1) &&& 1431655765)) / 2 ^ 2) &&& 858993459)) / 2 ^ 4)) &&& 252645135) + ((((((m_ - ((m_ / 2 ^ 1) &&& 1431655765)) &&& 858993459) + (((m_ - ((m_ / 2 ^ 1) &&& 1431655765)) / 2 ^ 2) &&& 858993459)) + ((((m_ - ((m_ / 2 ^ 1) &&& 1431655765)) &&& 858993459) + (((m_ - ((m_ / 2 ^ 1) &&& 1431655765)) / 2 ^ 2) &&& 858993459)) / 2 ^ 4)) &&& 252645135) / 2 ^ 8))))]) hx hb dJ6_bitCount_0f7a4_40 rfl hl (by decide) rfl (fun ls hl => ?_)
  refine lv_iload_n hx hb dJ6_bitCount_0f7a4_41 rfl (lv_at hl 0 rfl) ?_
  refine lv_iload_n hx hb dJ6_bitCount_0f7a4_42 rfl (lv_at hl 0 rfl) ?_
  refine lv_bipush (v := nI 16) hx hb dJ6_bitCount_0f7a4_43 (by decide) ?_
  refine lv_iushr (v := nI (((((((m_ - ((m_ / 2 ^ 1) &&& 1431655765)) &&& 858993459) + (((m_ - ((m_ / 2 ^ 1) &&& 1431655765)) / 2 ^ 2) &&& 858993459)) + ((((m_ - ((m_ / 2 ^ 1) &&& 1431655765)) &&& 858993459) + (((m_ - ((m_ / 2 ^ 1) &&& 1431655765)) / 2 ^ 2) &&& 858993459)) / 2 ^ 4)) &&& 252645135) + ((((((m_ - ((m_ / 2 ^ 1) &&& 1431655765)) &&& 858993459) + (((m_ - ((m_ / 2 ^ 1) &&& 1431655765)) / 2 ^ 2) &&& 858993459)) + ((((m_ - ((m_ / 2 ^ 1) &&& 1431655765)) &&& 858993459) + (((m_ - ((m_ / 2 ^ 1) &&& 1431655765)) / 2 ^ 2) &&& 858993459)) / 2 ^ 4)) &&& 252645135) / 2 ^ 8)) / 2 ^ 16)) hx hb dJ6_bitCount_0f7a4_45 (pk_ushrN (pop_b5 _) _ 16 (s_u 16 (by decide))) ?_
  refine zi_add (v := nI (((((((m_ - ((m_ / 2 ^ 1) &&& 1431655765)) &&& 858993459) + (((m_ - ((m_ / 2 ^ 1) &&& 1431655765)) / 2 ^ 2) &&& 858993459)) + ((((m_ - ((m_ / 2 ^ 1) &&& 1431655765)) &&& 858993459) + (((m_ - ((m_ / 2 ^ 1) &&& 1431655765)) / 2 ^ 2) &&& 858993459)) / 2 ^ 4)) &&& 252645135) + ((((((m_ - ((m_ / 2 ^ 1) &&& 1431655765)) &&& 858993459) + (((m_ - ((m_ / 2 ^ 1) &&& 1431655765)) / 2 ^ 2) &&& 858993459)) + ((((m_ - ((m_ / 2 ^ 1) &&& 1431655765)) &&& 858993459) + (((m_ - ((m_ / 2 ^ 1) &&& 1431655765)) / 2 ^ 2) &&& 858993459)) / 2 ^ 4)) &&& 252645135) / 2 ^ 8)) + (((((((m_ - ((m_ / 2 ^ 1) &&& 1431655765)) &&& 858993459) + (((m_ - ((m_ / 2 ^ 1) &&& 1431655765)) / 2 ^ 2) &&& 858993459)) + ((((m_ - ((m_ / 2 ^ 1) &&& 1431655765)) &&& 858993459) + (((m_ - ((m_ / 2 ^ 1) &&& 1431655765)) / 2 ^ 2) &&& 858993459)) / 2 ^ 4)) &&& 252645135) + ((((((m_ - ((m_ / 2 ^ 1) &&& 1431655765)) &&& 858993459) + (((m_ - ((m_ / 2 ^ 1) &&& 1431655765)) / 2 ^ 2) &&& 858993459)) + ((((m_ - ((m_ / 2 ^ 1) &&& 1431655765)) &&& 858993459) + (((m_ - ((m_ / 2 ^ 1) &&& 1431655765)) / 2 ^ 2) &&& 858993459)) / 2 ^ 4)) &&& 252645135) / 2 ^ 8)) / 2 ^ 16))) hx hb dJ6_bitCount_0f7a4_46 (nI_add _ _) ?_
  refine lv_istore_n (lv' := [(0, .int (nI (((((((m_ - ((m_ / 2 ^ 1) &&& 1431655765)) &&& 858993459) + (((m_ - ((m_ / 2 ^ 1) &&& 1431655765)) / 2 ^ 2) &&& 858993459)) + ((((m_ - ((m_ / 2 ^ 1) &&& 1431655765)) &&& 858993459) + (((m_ - ((m_ / 2 ^ 1) &&& 1431655765)) / 2 ^ 2) &&& 858993459)) / 2 ^ 4)) &&& 252645135) + ((((((m_ - ((m_ / 2 ^ 1) &&& 1431655765)) &&& 858993459) + (((m_ - ((m_ / 2 ^ 1) &&& 1431655765)) / 2 ^ 2) &&& 858993459)) + ((((m_ - ((m_ / 2 ^ 1) &&& 1431655765)) &&& 858993459) + (((m_ - ((m_ / 2 ^ 1) &&& 1431655765)) / 2 ^ 2) &&& 858993459)) / 2 ^ 4)) &&& 252645135) / 2 ^ 8)) + (((((((m_ - ((m_ / 2 ^ 1) &&& 1431655765)) &&& 858993459) + (((m_ - ((m_ / 2 ^ 1) &&& 1431655765)) / 2 ^ 2) &&& 858993459)) + ((((m_ - ((m_ / 2 ^ 1) &&& 1431655765)) &&& 858993459) + (((m_ - ((m_ / 2 ^ 1) &&& 1431655765)) / 2 ^ 2) &&& 858993459)) / 2 ^ 4)) &&& 252645135) + ((((((m_ - ((m_ / 2 ^ 1) &&& 1431655765)) &&& 858993459) + (((m_ - ((m_ / 2 ^ 1) &&& 1431655765)) / 2 ^ 2) &&& 858993459)) + ((((m_ - ((m_ / 2 ^ 1) &&& 1431655765)) &&& 858993459) + (((m_ - ((m_ / 2 ^ 1) &&& 1431655765)) / 2 ^ 2) &&& 858993459)) / 2 ^ 4)) &&& 252645135) / 2 ^ 8)) / 2 ^ 16))))]) hx hb dJ6_bitCount_0f7a4_47 rfl hl (by decide) rfl (fun ls hl => ?_)
  refine lv_iload_n hx hb dJ6_bitCount_0f7a4_48 rfl (lv_at hl 0 rfl) ?_
  refine lv_bipush (v := nI 63) hx hb dJ6_bitCount_0f7a4_49 (by decide) ?_
  refine zi_and (v := nI ((((((((m_ - ((m_ / 2 ^ 1) &&& 1431655765)) &&& 858993459) + (((m_ - ((m_ / 2 ^ 1) &&& 1431655765)) / 2 ^ 2) &&& 858993459)) + ((((m_ - ((m_ / 2 ^ 1) &&& 1431655765)) &&& 858993459) + (((m_ - ((m_ / 2 ^ 1) &&& 1431655765)) / 2 ^ 2) &&& 858993459)) / 2 ^ 4)) &&& 252645135) + ((((((m_ - ((m_ / 2 ^ 1) &&& 1431655765)) &&& 858993459) + (((m_ - ((m_ / 2 ^ 1) &&& 1431655765)) / 2 ^ 2) &&& 858993459)) + ((((m_ - ((m_ / 2 ^ 1) &&& 1431655765)) &&& 858993459) + (((m_ - ((m_ / 2 ^ 1) &&& 1431655765)) / 2 ^ 2) &&& 858993459)) / 2 ^ 4)) &&& 252645135) / 2 ^ 8)) + (((((((m_ - ((m_ / 2 ^ 1) &&& 1431655765)) &&& 858993459) + (((m_ - ((m_ / 2 ^ 1) &&& 1431655765)) / 2 ^ 2) &&& 858993459)) + ((((m_ - ((m_ / 2 ^ 1) &&& 1431655765)) &&& 858993459) + (((m_ - ((m_ / 2 ^ 1) &&& 1431655765)) / 2 ^ 2) &&& 858993459)) / 2 ^ 4)) &&& 252645135) + ((((((m_ - ((m_ / 2 ^ 1) &&& 1431655765)) &&& 858993459) + (((m_ - ((m_ / 2 ^ 1) &&& 1431655765)) / 2 ^ 2) &&& 858993459)) + ((((m_ - ((m_ / 2 ^ 1) &&& 1431655765)) &&& 858993459) + (((m_ - ((m_ / 2 ^ 1) &&& 1431655765)) / 2 ^ 2) &&& 858993459)) / 2 ^ 4)) &&& 252645135) / 2 ^ 8)) / 2 ^ 16)) &&& 63)) hx hb dJ6_bitCount_0f7a4_51 (fa_and _ _) ?_
  exact kr _ _ _ dJ6_bitCount_0f7a4_52 (vp_nar_int _) rfl
abbrev w_X3_to : List Cond := Cond.code yX3_to cX3_to 3 (some .int) :: zAll
abbrev r_X3_to : Room := { frames := 0, cells := 0, slots := 0, locals := 0 }
theorem zd_X3_to : yX3_to.cls ≠ "java/lang/invoke/MethodHandle" ∧ yX3_to.cls ≠ "java/lang/invoke/VarHandle" ∧ (parseMethodDescriptor yX3_to.desc).map (fun d => d.parameters.length) = some 2 := by decide +kernel
set_option maxHeartbeats 4000000 in
set_option maxRecDepth 100000 in
theorem c_X3_to (l : Launch) (D : va_G) (cy : Nat → ClassId) (x_ : Int64) (p_ : Nat) (hp : p_ < 16) : zMi l yX3_to w_X3_to r_X3_to D cy [] [.long x_, .int (nI p_)] (fun r_ => r_ = (nI (nb x_ p_))) := by
  refine zOfR (cc := cX3_to) (maxL := 3) (ty := .int) (by decide) rfl (Nat.le_of_ble_eq_true rfl) ?_
  intro zp ze zs zm za zb zme zc hx hb hml hts hown hP hK Q kr ls hl
  have hown : zs.vm.findClass RX3 = some zm.cls := hown
  have hl : lv_has ls 3 [(0, .long x_), (2, .int (nI p_))] := hl
  refine lv_lload_n hx hb dX3_to_0 rfl (lv_at hl 0 rfl) ?_
  refine lv_iconst (v := nI 4) hx hb dX3_to_1 (by decide) ?_
  refine lv_iload_n hx hb dX3_to_2 rfl (lv_at hl 1 rfl) ?_
  refine zi_mul (v := nI (4 * p_)) hx hb dX3_to_3 (pk_mul _ _) ?_
  refine lv_lushr (v := (x_.toUInt64 >>> ((nI (4 * p_)).toInt64.toUInt64 &&& Int64.toUInt64 63)).toInt64) hx hb dX3_to_4 rfl ?_
  refine lv_l2i (v := (x_.toUInt64 >>> ((nI (4 * p_)).toInt64.toUInt64 &&& Int64.toUInt64 63)).toInt64.toInt32) hx hb dX3_to_5 rfl ?_
  refine lv_bipush (v := nI 15) hx hb dX3_to_6 (by decide) ?_
  refine zi_and (v := nI (nb x_ p_)) hx hb dX3_to_8 (nb_to x_ hp) ?_
  exact kr _ _ _ dX3_to_9 (vp_nar_int _) rfl
abbrev w_X3_from : List Cond := Cond.code yX3_from cX3_from 4 (some .int) :: zAll
abbrev r_X3_from : Room := { frames := 1, cells := 0, slots := 0, locals := 22 }
theorem zd_X3_from : yX3_from.cls ≠ "java/lang/invoke/MethodHandle" ∧ yX3_from.cls ≠ "java/lang/invoke/VarHandle" ∧ (parseMethodDescriptor yX3_from.desc).map (fun d => d.parameters.length) = some 2 := by decide +kernel
set_option maxHeartbeats 4000000 in
set_option maxRecDepth 100000 in
theorem c_X3_from (l : Launch) (D : va_G) (cy : Nat → ClassId) (x_ : Int64) (t_ : Nat) (ht : t_ < 16) : zMi l yX3_from w_X3_from r_X3_from D cy [] [.long x_, .int (nI t_)] (fun r_ => r_ = (nI (fr x_ t_))) := by
  refine zOfR (cc := cX3_from) (maxL := 4) (ty := .int) (by decide) rfl (Nat.le_of_ble_eq_true rfl) ?_
  intro zp ze zs zm za zb zme zc hx hb hml hts hown hP hK Q kr ls hl
  have hown : zs.vm.findClass RX3 = some zm.cls := hown
  have hl : lv_has ls 4 [(0, .long x_), (2, .int (nI t_))] := hl
  refine lv_iconst (v := nI 0) hx hb dX3_from_0 (by decide) ?_
  refine lv_istore_n (lv' := [(3, .int (nI 0)), (0, .long x_), (2, .int (nI t_))]) hx hb dX3_from_1 rfl hl (by decide) rfl (fun ls hl => ?_)
  have L2 : ∀ (kf_ : Nat) (i_ : Nat) (hi : i_ ≤ 16) (hl_ : ∀ j_, j_ < i_ → nb x_ j_ ≠ t_), 16 - i_ < kf_ → ∀ ls : Array Slot, lv_has ls 4 [(0, .long x_), (2, .int (nI t_)), (3, .int (nI i_))] → W zp l ze r_X3_from zs zm za zb zme zc zs.heap [] 0 0 Q (F0 zm 2 ls []) := by
    intro kf_
    induction kf_ with
    | zero => intro i_ hi hl_ hk_; exact absurd hk_ (Nat.not_lt_zero _)
    | succ kf_ ih2 =>
      intro i_ hi hl_ hk_ ls hl
      refine lv_iload_n hx hb dX3_from_2 rfl (lv_at hl 2 rfl) ?_
      refine lv_bipush (v := nI 16) hx hb dX3_from_3 (by decide) ?_
      refine zb_ge (a := i_) (b := 16) (tgt := 25) hx hb dX3_from_5 (by decide) (by omega) (by omega) (fun c5 => ?_) (fun c5 => ?_)
      · skip
        refine lv_iconst (v := nI 0) hx hb dX3_from_25 (by decide) ?_
        exact kr _ _ _ dX3_from_26 (vp_nar_int _) (congrArg nI (fr_none (fun j_ hj_ => hl_ j_ (by omega))).symm)
      · skip
        refine lv_lload_n hx hb dX3_from_8 rfl (lv_at hl 0 rfl) ?_
        refine lv_iload_n hx hb dX3_from_9 rfl (lv_at hl 2 rfl) ?_
        refine zcSi (As := [.long x_, .int (nI i_)]) (rest := []) ⟨hx, hb, hml, hown, hts⟩ (c_X3_to l D cy x_ i_ (by omega)) (va_cwS 2 hts (zG_S zw_121 zw_122 zw_119 zw_123) rfl rfl rfl zd_X3_to ⟨Nat.le_of_ble_eq_true rfl, Nat.le_of_ble_eq_true rfl⟩) hK hP [] rfl rfl hl.1 rfl (Nat.le_of_ble_eq_true rfl) dX3_from_10 ⟨Nat.zero_le _, Nat.zero_le _⟩ (fun r10 h10 => ?_)
        subst h10
        refine lv_iload_n hx hb dX3_from_13 rfl (lv_at hl 1 rfl) ?_
        have hb14 := nb_lt x_ i_
        refine zb_ne (a := nb x_ i_) (b := t_) (tgt := 19) hx hb dX3_from_14 (by decide) (by omega) (by omega) (fun c14 => ?_) (fun c14 => ?_)
        · skip
          refine lv_iinc (v := nI (i_ + 1)) (lv' := [(3, .int (nI (i_ + 1))), (0, .long x_), (2, .int (nI t_))]) hx hb dX3_from_19 hl (k := 2) rfl (nI_1 _) (by decide) rfl (fun ls hl => ?_)
          refine lv_goto (tgt := 2) hx hb dX3_from_22 (by decide) ?_
          exact ih2 (i_ + 1) (by omega) (fun j_ hj_ => by rcases Nat.lt_or_ge j_ i_ with q_ | q_; exact hl_ j_ q_; rw [show j_ = i_ by omega]; exact c14) (by omega) _ (lv_sub hl [1, 2, 0] rfl)
        · skip
          refine lv_iload_n hx hb dX3_from_17 rfl (lv_at hl 2 rfl) ?_
          exact kr _ _ _ dX3_from_18 (vp_nar_int _) (congrArg nI (fr_found (by omega) c14 hl_).symm)
  exact L2 (16 - 0 + 1) 0 (by omega) (fun j_ hj_ => by omega) (Nat.lt_succ_self _) _ (lv_sub hl [1, 2, 0] rfl)
abbrev w_X3_with : List Cond := Cond.code yX3_with cX3_with 6 (some .long) :: zAll
abbrev r_X3_with : Room := { frames := 0, cells := 0, slots := 0, locals := 0 }
theorem zd_X3_with : yX3_with.cls ≠ "java/lang/invoke/MethodHandle" ∧ yX3_with.cls ≠ "java/lang/invoke/VarHandle" ∧ (parseMethodDescriptor yX3_with.desc).map (fun d => d.parameters.length) = some 3 := by decide +kernel
set_option maxHeartbeats 4000000 in
set_option maxRecDepth 100000 in
theorem c_X3_with (l : Launch) (D : va_G) (cy : Nat → ClassId) (x_ : Int64) (p_ : Nat) (t_ : Nat) (hp : p_ < 16) (ht : t_ < 16) : zMl l yX3_with w_X3_with r_X3_with D cy [] [.long x_, .int (nI p_), .int (nI t_)] (fun r_ => r_ = (wN x_ p_ t_)) := by
  refine zOfRl (cc := cX3_with) (maxL := 6) (by decide) rfl (Nat.le_of_ble_eq_true rfl) ?_
  intro zp ze zs zm za zb zme zc hx hb hml hts hown hP hK Q kr ls hl
  have hown : zs.vm.findClass RX3 = some zm.cls := hown
  have hl : lv_has ls 6 [(0, .long x_), (2, .int (nI p_)), (3, .int (nI t_))] := hl
  refine lv_lload_n hx hb dX3_with_0 rfl (lv_at hl 0 rfl) ?_
  refine lv_ldc2 hx hb hown (hts _ (List.mem_cons_of_mem _ zw_226)) dX3_with_1 ?_
  refine zl_top (v := lN 15) rfl ?_
  refine lv_iconst (v := nI 4) hx hb dX3_with_4 (by decide) ?_
  refine lv_iload_n hx hb dX3_with_5 rfl (lv_at hl 1 rfl) ?_
  refine zi_mul (v := nI (4 * p_)) hx hb dX3_with_6 (pk_mul _ _) ?_
  refine lv_lshl (v := (lN 15) <<< ((nI (4 * p_)).toInt64 &&& 63)) hx hb dX3_with_7 rfl ?_
  refine lv_ldc2 hx hb hown (hts _ (List.mem_cons_of_mem _ zw_227)) dX3_with_8 ?_
  refine zl_xor (v := ((lN 15) <<< ((nI (4 * p_)).toInt64 &&& 63)) ^^^ (-1 : Int64)) hx hb dX3_with_11 rfl ?_
  refine zl_and (v := x_ &&& (((lN 15) <<< ((nI (4 * p_)).toInt64 &&& 63)) ^^^ (-1 : Int64))) hx hb dX3_with_12 rfl ?_
  refine lv_lstore (lv' := [(4, .long (x_ &&& (((lN 15) <<< ((nI (4 * p_)).toInt64 &&& 63)) ^^^ (-1 : Int64)))), (0, .long x_), (2, .int (nI p_)), (3, .int (nI t_))]) hx hb dX3_with_13 hl (by decide) rfl (fun ls hl => ?_)
  refine lv_lload hx hb dX3_with_15 (lv_at hl 0 rfl) ?_
  refine lv_iload_n hx hb dX3_with_17 rfl (lv_at hl 3 rfl) ?_
  refine lv_bipush (v := nI 15) hx hb dX3_with_18 (by decide) ?_
  refine zi_and (v := nI t_) hx hb dX3_with_20 (zz_and15 ht) ?_
  refine lv_i2l (v := (nI t_).toInt64) hx hb dX3_with_21 rfl ?_
  refine lv_iconst (v := nI 4) hx hb dX3_with_22 (by decide) ?_
  refine lv_iload_n hx hb dX3_with_23 rfl (lv_at hl 2 rfl) ?_
  refine zi_mul (v := nI (4 * p_)) hx hb dX3_with_24 (pk_mul _ _) ?_
  refine lv_lshl (v := ((nI t_).toInt64) <<< ((nI (4 * p_)).toInt64 &&& 63)) hx hb dX3_with_25 rfl ?_
  refine zl_or (v := wN x_ p_ t_) hx hb dX3_with_26 (nb_with x_ hp ht) ?_
  exact kr _ _ _ dX3_with_27 rfl
abbrev w_X3_then : List Cond := Cond.code yX3_then cX3_then 7 (some .long) :: zAll
abbrev r_X3_then : Room := { frames := 1, cells := 0, slots := 0, locals := 25 }
theorem zd_X3_then : yX3_then.cls ≠ "java/lang/invoke/MethodHandle" ∧ yX3_then.cls ≠ "java/lang/invoke/VarHandle" ∧ (parseMethodDescriptor yX3_then.desc).map (fun d => d.parameters.length) = some 2 := by decide +kernel
set_option maxHeartbeats 4000000 in
set_option maxRecDepth 100000 in
theorem c_X3_then (l : Launch) (D : va_G) (cy : Nat → ClassId) (x_ : Int64) (y_ : Int64) : zMl l yX3_then w_X3_then r_X3_then D cy [] [.long x_, .long y_] (fun r_ => r_ = (thenL x_ y_)) := by
  refine zOfRl (cc := cX3_then) (maxL := 7) (by decide) rfl (Nat.le_of_ble_eq_true rfl) ?_
  intro zp ze zs zm za zb zme zc hx hb hml hts hown hP hK Q kr ls hl
  have hown : zs.vm.findClass RX3 = some zm.cls := hown
  have hl : lv_has ls 7 [(0, .long x_), (2, .long y_)] := hl
  refine lv_lconst (v := lN 0) hx hb dX3_then_0 rfl ?_
  refine zl_top (v := pk (zfl (fun q_ => nb y_ (nb x_ q_)) 0)) (zfl_0 _) ?_
  refine lv_lstore (lv' := [(4, .long (pk (zfl (fun q_ => nb y_ (nb x_ q_)) 0))), (0, .long x_), (2, .long y_)]) hx hb dX3_then_1 hl (by decide) rfl (fun ls hl => ?_)
  refine lv_iconst (v := nI 0) hx hb dX3_then_3 (by decide) ?_
  refine lv_istore (lv' := [(6, .int (nI 0)), (4, .long (pk (zfl (fun q_ => nb y_ (nb x_ q_)) 0))), (0, .long x_), (2, .long y_)]) hx hb dX3_then_4 hl (by decide) rfl (fun ls hl => ?_)
  have L6 : ∀ (kf_ : Nat) (i_ : Nat) (hi : i_ ≤ 16), 16 - i_ < kf_ → ∀ ls : Array Slot, lv_has ls 7 [(0, .long x_), (2, .long y_), (4, .long (pk (zfl (fun q_ => nb y_ (nb x_ q_)) i_))), (6, .int (nI i_))] → W zp l ze r_X3_then zs zm za zb zme zc zs.heap [] 0 0 Q (F0 zm 6 ls []) := by
    intro kf_
    induction kf_ with
    | zero => intro i_ hi hk_; exact absurd hk_ (Nat.not_lt_zero _)
    | succ kf_ ih6 =>
      intro i_ hi hk_ ls hl
      refine lv_iload hx hb dX3_then_6 (lv_at hl 3 rfl) ?_
      refine lv_bipush (v := nI 16) hx hb dX3_then_8 (by decide) ?_
      refine zb_ge (a := i_) (b := 16) (tgt := 38) hx hb dX3_then_10 (by decide) (by omega) (by omega) (fun c10 => ?_) (fun c10 => ?_)
      · skip
        refine lv_lload hx hb dX3_then_38 (lv_at hl 2 rfl) ?_
        exact kr _ _ _ dX3_then_40 (by rw [show i_ = 16 by omega]; exact zfl_e _)
      · skip
        refine lv_lload hx hb dX3_then_13 (lv_at hl 2 rfl) ?_
        refine lv_iload hx hb dX3_then_15 (lv_at hl 3 rfl) ?_
        refine lv_lload_n hx hb dX3_then_17 rfl (lv_at hl 1 rfl) ?_
        refine lv_lload_n hx hb dX3_then_18 rfl (lv_at hl 0 rfl) ?_
        refine lv_iload hx hb dX3_then_19 (lv_at hl 3 rfl) ?_
        refine zcSi (As := [.long x_, .int (nI i_)]) (rest := [.long y_, .int (nI i_), .long (pk (zfl (fun q_ => nb y_ (nb x_ q_)) i_))]) ⟨hx, hb, hml, hown, hts⟩ (c_X3_to l D cy x_ i_ (by omega)) (va_cwS 2 hts (zG_S zw_121 zw_122 zw_119 zw_123) rfl rfl rfl zd_X3_to ⟨Nat.le_of_ble_eq_true rfl, Nat.le_of_ble_eq_true rfl⟩) hK hP [] rfl rfl hl.1 rfl (Nat.le_of_ble_eq_true rfl) dX3_then_21 ⟨Nat.zero_le _, Nat.zero_le _⟩ (fun r21 h21 => ?_)
        subst h21
        refine zcSi (As := [.long y_, .int (nI (nb x_ i_))]) (rest := [.int (nI i_), .long (pk (zfl (fun q_ => nb y_ (nb x_ q_)) i_))]) ⟨hx, hb, hml, hown, hts⟩ (c_X3_to l D cy y_ (nb x_ i_) (nb_lt _ _)) (va_cwS 2 hts (zG_S zw_121 zw_122 zw_119 zw_123) rfl rfl rfl zd_X3_to ⟨Nat.le_of_ble_eq_true rfl, Nat.le_of_ble_eq_true rfl⟩) hK hP [] rfl rfl hl.1 rfl (Nat.le_of_ble_eq_true rfl) dX3_then_24 ⟨Nat.zero_le _, Nat.zero_le _⟩ (fun r24 h24 => ?_)
        subst h24
        refine zcSl (As := [.long (pk (zfl (fun q_ => nb y_ (nb x_ q_)) i_)), .int (nI i_), .int (nI (nb y_ (nb x_ i_)))]) (rest := []) ⟨hx, hb, hml, hown, hts⟩ (c_X3_with l D cy (pk (zfl (fun q_ => nb y_ (nb x_ q_)) i_)) i_ (nb y_ (nb x_ i_)) (by omega) (nb_lt _ _)) (va_cwS 3 hts (zG_S zw_223 zw_224 zw_119 zw_225) rfl rfl rfl zd_X3_with ⟨Nat.le_of_ble_eq_true rfl, Nat.le_of_ble_eq_true rfl⟩) hK hP [] rfl rfl hl.1 rfl (Nat.le_of_ble_eq_true rfl) dX3_then_27 ⟨Nat.zero_le _, Nat.zero_le _⟩ (fun r27 h27 => ?_)
        subst h27
        refine zl_top (v := pk (zfl (fun q_ => nb y_ (nb x_ q_)) (i_ + 1))) (zfl_s (g := (fun q_ => nb y_ (nb x_ q_))) (by omega) (nb_lt _ _)) ?_
        refine lv_lstore (lv' := [(4, .long (pk (zfl (fun q_ => nb y_ (nb x_ q_)) (i_ + 1)))), (0, .long x_), (2, .long y_), (6, .int (nI i_))]) hx hb dX3_then_30 hl (by decide) rfl (fun ls hl => ?_)
        refine lv_iinc (v := nI (i_ + 1)) (lv' := [(6, .int (nI (i_ + 1))), (4, .long (pk (zfl (fun q_ => nb y_ (nb x_ q_)) (i_ + 1)))), (0, .long x_), (2, .long y_)]) hx hb dX3_then_32 hl (k := 3) rfl (nI_1 _) (by decide) rfl (fun ls hl => ?_)
        refine lv_goto (tgt := 6) hx hb dX3_then_35 (by decide) ?_
        exact ih6 (i_ + 1) (by omega) (by omega) _ (lv_sub hl [2, 3, 1, 0] rfl)
  exact L6 (16 - 0 + 1) 0 (by omega) (Nat.lt_succ_self _) _ (lv_sub hl [2, 3, 1, 0] rfl)
abbrev w_X3_inverse : List Cond := Cond.code yX3_inverse cX3_inverse 5 (some .long) :: zAll
abbrev r_X3_inverse : Room := { frames := 1, cells := 0, slots := 0, locals := 25 }
theorem zd_X3_inverse : yX3_inverse.cls ≠ "java/lang/invoke/MethodHandle" ∧ yX3_inverse.cls ≠ "java/lang/invoke/VarHandle" ∧ (parseMethodDescriptor yX3_inverse.desc).map (fun d => d.parameters.length) = some 1 := by decide +kernel
set_option maxHeartbeats 4000000 in
set_option maxRecDepth 100000 in
theorem c_X3_inverse (l : Launch) (D : va_G) (cy : Nat → ClassId) (x_ : Int64) (hx_ : P16 (nb x_)) : zMl l yX3_inverse w_X3_inverse r_X3_inverse D cy [] [.long x_] (fun r_ => r_ = (invL x_)) := by
  refine zOfRl (cc := cX3_inverse) (maxL := 5) (by decide) rfl (Nat.le_of_ble_eq_true rfl) ?_
  intro zp ze zs zm za zb zme zc hx hb hml hts hown hP hK Q kr ls hl
  have hown : zs.vm.findClass RX3 = some zm.cls := hown
  have hl : lv_has ls 5 [(0, .long x_)] := hl
  refine lv_lconst (v := lN 0) hx hb dX3_inverse_0 rfl ?_
  refine zl_top (v := pk (zfi x_ 0)) (zfi_0 _) ?_
  refine lv_lstore_n (lv' := [(2, .long (pk (zfi x_ 0))), (0, .long x_)]) hx hb dX3_inverse_1 rfl hl (by decide) rfl (fun ls hl => ?_)
  refine lv_iconst (v := nI 0) hx hb dX3_inverse_2 (by decide) ?_
  refine lv_istore (lv' := [(4, .int (nI 0)), (2, .long (pk (zfi x_ 0))), (0, .long x_)]) hx hb dX3_inverse_3 hl (by decide) rfl (fun ls hl => ?_)
  have L5 : ∀ (kf_ : Nat) (i_ : Nat) (hi : i_ ≤ 16), 16 - i_ < kf_ → ∀ ls : Array Slot, lv_has ls 5 [(0, .long x_), (2, .long (pk (zfi x_ i_))), (4, .int (nI i_))] → W zp l ze r_X3_inverse zs zm za zb zme zc zs.heap [] 0 0 Q (F0 zm 5 ls []) := by
    intro kf_
    induction kf_ with
    | zero => intro i_ hi hk_; exact absurd hk_ (Nat.not_lt_zero _)
    | succ kf_ ih5 =>
      intro i_ hi hk_ ls hl
      refine lv_iload hx hb dX3_inverse_5 (lv_at hl 2 rfl) ?_
      refine lv_bipush (v := nI 16) hx hb dX3_inverse_7 (by decide) ?_
      refine zb_ge (a := i_) (b := 16) (tgt := 31) hx hb dX3_inverse_9 (by decide) (by omega) (by omega) (fun c9 => ?_) (fun c9 => ?_)
      · skip
        refine lv_lload_n hx hb dX3_inverse_31 rfl (lv_at hl 1 rfl) ?_
        exact kr _ _ _ dX3_inverse_32 (by rw [show i_ = 16 by omega]; exact zfi_e _)
      · skip
        refine lv_lload_n hx hb dX3_inverse_12 rfl (lv_at hl 1 rfl) ?_
        refine lv_lload_n hx hb dX3_inverse_13 rfl (lv_at hl 0 rfl) ?_
        refine lv_iload hx hb dX3_inverse_14 (lv_at hl 2 rfl) ?_
        refine zcSi (As := [.long x_, .int (nI i_)]) (rest := [.long (pk (zfi x_ i_))]) ⟨hx, hb, hml, hown, hts⟩ (c_X3_to l D cy x_ i_ (by omega)) (va_cwS 2 hts (zG_S zw_121 zw_122 zw_119 zw_123) rfl rfl rfl zd_X3_to ⟨Nat.le_of_ble_eq_true rfl, Nat.le_of_ble_eq_true rfl⟩) hK hP [] rfl rfl hl.1 rfl (Nat.le_of_ble_eq_true rfl) dX3_inverse_16 ⟨Nat.zero_le _, Nat.zero_le _⟩ (fun r16 h16 => ?_)
        subst h16
        refine lv_iload hx hb dX3_inverse_19 (lv_at hl 2 rfl) ?_
        refine zcSl (As := [.long (pk (zfi x_ i_)), .int (nI (nb x_ i_)), .int (nI i_)]) (rest := []) ⟨hx, hb, hml, hown, hts⟩ (c_X3_with l D cy (pk (zfi x_ i_)) (nb x_ i_) i_ (nb_lt _ _) (by omega)) (va_cwS 3 hts (zG_S zw_223 zw_224 zw_119 zw_225) rfl rfl rfl zd_X3_with ⟨Nat.le_of_ble_eq_true rfl, Nat.le_of_ble_eq_true rfl⟩) hK hP [] rfl rfl hl.1 rfl (Nat.le_of_ble_eq_true rfl) dX3_inverse_21 ⟨Nat.zero_le _, Nat.zero_le _⟩ (fun r21 h21 => ?_)
        subst h21
        refine zl_top (v := pk (zfi x_ (i_ + 1))) (zfi_s hx_ (by omega)) ?_
        refine lv_lstore_n (lv' := [(2, .long (pk (zfi x_ (i_ + 1)))), (0, .long x_), (4, .int (nI i_))]) hx hb dX3_inverse_24 rfl hl (by decide) rfl (fun ls hl => ?_)
        refine lv_iinc (v := nI (i_ + 1)) (lv' := [(4, .int (nI (i_ + 1))), (2, .long (pk (zfi x_ (i_ + 1)))), (0, .long x_)]) hx hb dX3_inverse_25 hl (k := 2) rfl (nI_1 _) (by decide) rfl (fun ls hl => ?_)
        refine lv_goto (tgt := 5) hx hb dX3_inverse_28 (by decide) ?_
        exact ih5 (i_ + 1) (by omega) (by omega) _ (lv_sub hl [2, 1, 0] rfl)
  exact L5 (16 - 0 + 1) 0 (by omega) (Nat.lt_succ_self _) _ (lv_sub hl [2, 1, 0] rfl)
abbrev w_X3_cycleLength : List Cond := Cond.code yX3_cycleLength cX3_cycleLength 5 (some .int) :: zAll
abbrev r_X3_cycleLength : Room := { frames := 1, cells := 0, slots := 0, locals := 22 }
theorem zd_X3_cycleLength : yX3_cycleLength.cls ≠ "java/lang/invoke/MethodHandle" ∧ yX3_cycleLength.cls ≠ "java/lang/invoke/VarHandle" ∧ (parseMethodDescriptor yX3_cycleLength.desc).map (fun d => d.parameters.length) = some 2 := by decide +kernel
set_option maxHeartbeats 4000000 in
set_option maxRecDepth 100000 in
theorem c_X3_cycleLength (l : Launch) (D : va_G) (cy : Nat → ClassId) (x_ : Int64) (p_ : Nat) (hp : p_ < 16) : zMi l yX3_cycleLength w_X3_cycleLength r_X3_cycleLength D cy [] [.long x_, .int (nI p_)] (fun r_ => r_ = (nI (cl (nb x_) p_))) := by
  refine zOfR (cc := cX3_cycleLength) (maxL := 5) (ty := .int) (by decide) rfl (Nat.le_of_ble_eq_true rfl) ?_
  intro zp ze zs zm za zb zme zc hx hb hml hts hown hP hK Q kr ls hl
  have hown : zs.vm.findClass RX3 = some zm.cls := hown
  have hl : lv_has ls 5 [(0, .long x_), (2, .int (nI p_))] := hl
  refine lv_iconst (v := nI 1) hx hb dX3_cycleLength_0 (by decide) ?_
  refine lv_istore_n (lv' := [(3, .int (nI 1)), (0, .long x_), (2, .int (nI p_))]) hx hb dX3_cycleLength_1 rfl hl (by decide) rfl (fun ls hl => ?_)
  refine lv_lload_n hx hb dX3_cycleLength_2 rfl (lv_at hl 1 rfl) ?_
  refine lv_iload_n hx hb dX3_cycleLength_3 rfl (lv_at hl 2 rfl) ?_
  refine zcSi (As := [.long x_, .int (nI p_)]) (rest := []) ⟨hx, hb, hml, hown, hts⟩ (c_X3_to l D cy x_ p_ (by omega)) (va_cwS 2 hts (zG_S zw_121 zw_122 zw_119 zw_123) rfl rfl rfl zd_X3_to ⟨Nat.le_of_ble_eq_true rfl, Nat.le_of_ble_eq_true rfl⟩) hK hP [] rfl rfl hl.1 rfl (Nat.le_of_ble_eq_true rfl) dX3_cycleLength_4 ⟨Nat.zero_le _, Nat.zero_le _⟩ (fun r4 h4 => ?_)
  subst h4
  refine zi_top (v := nI (it (nb x_) 1 p_)) rfl ?_
  refine lv_istore (lv' := [(4, .int (nI (it (nb x_) 1 p_))), (3, .int (nI 1)), (0, .long x_), (2, .int (nI p_))]) hx hb dX3_cycleLength_7 hl (by decide) rfl (fun ls hl => ?_)
  have L9 : ∀ (kf_ : Nat) (i_ : Nat) (h0 : 0 < i_) (hi : i_ ≤ 16) (hl_ : ∀ j_, 0 < j_ → j_ < i_ → it (nb x_) j_ p_ ≠ p_), 16 - i_ < kf_ → ∀ ls : Array Slot, lv_has ls 5 [(0, .long x_), (2, .int (nI p_)), (3, .int (nI i_)), (4, .int (nI (it (nb x_) i_ p_)))] → W zp l ze r_X3_cycleLength zs zm za zb zme zc zs.heap [] 0 0 Q (F0 zm 9 ls []) := by
    intro kf_
    induction kf_ with
    | zero => intro i_ h0 hi hl_ hk_; exact absurd hk_ (Nat.not_lt_zero _)
    | succ kf_ ih9 =>
      intro i_ h0 hi hl_ hk_ ls hl
      refine lv_iload hx hb dX3_cycleLength_9 (lv_at hl 3 rfl) ?_
      refine lv_iload_n hx hb dX3_cycleLength_11 rfl (lv_at hl 1 rfl) ?_
      have hb12 : it (nb x_) i_ p_ < 16 := (it_lt (fun q_ _ => nb_lt x_ q_) hp)
      refine zb_eq (a := it (nb x_) i_ p_) (b := p_) (tgt := 35) hx hb dX3_cycleLength_12 (by decide) (by omega) (by omega) (fun c12 => ?_) (fun c12 => ?_)
      · skip
        refine lv_iload_n hx hb dX3_cycleLength_35 rfl (lv_at hl 2 rfl) ?_
        exact kr _ _ _ dX3_cycleLength_36 (vp_nar_int _) (congrArg nI (cl_found h0 hi (Or.inl c12) hl_).symm)
      · skip
        refine lv_iload_n hx hb dX3_cycleLength_15 rfl (lv_at hl 2 rfl) ?_
        refine lv_bipush (v := nI 16) hx hb dX3_cycleLength_16 (by decide) ?_
        refine zb_ge (a := i_) (b := 16) (tgt := 35) hx hb dX3_cycleLength_18 (by decide) (by omega) (by omega) (fun c18 => ?_) (fun c18 => ?_)
        · skip
          refine lv_iload_n hx hb dX3_cycleLength_35 rfl (lv_at hl 2 rfl) ?_
          exact kr _ _ _ dX3_cycleLength_36 (vp_nar_int _) (congrArg nI (cl_found h0 hi (Or.inr (by omega)) hl_).symm)
        · skip
          refine lv_lload_n hx hb dX3_cycleLength_21 rfl (lv_at hl 0 rfl) ?_
          refine lv_iload hx hb dX3_cycleLength_22 (lv_at hl 3 rfl) ?_
          refine zcSi (As := [.long x_, .int (nI (it (nb x_) i_ p_))]) (rest := []) ⟨hx, hb, hml, hown, hts⟩ (c_X3_to l D cy x_ (it (nb x_) i_ p_) (it_lt (fun q_ _ => nb_lt x_ q_) hp)) (va_cwS 2 hts (zG_S zw_121 zw_122 zw_119 zw_123) rfl rfl rfl zd_X3_to ⟨Nat.le_of_ble_eq_true rfl, Nat.le_of_ble_eq_true rfl⟩) hK hP [] rfl rfl hl.1 rfl (Nat.le_of_ble_eq_true rfl) dX3_cycleLength_24 ⟨Nat.zero_le _, Nat.zero_le _⟩ (fun r24 h24 => ?_)
          subst h24
          refine zi_top (v := nI (it (nb x_) (i_ + 1) p_)) (congrArg nI (it_succ _ _ _).symm) ?_
          refine lv_istore (lv' := [(4, .int (nI (it (nb x_) (i_ + 1) p_))), (0, .long x_), (2, .int (nI p_)), (3, .int (nI i_))]) hx hb dX3_cycleLength_27 hl (by decide) rfl (fun ls hl => ?_)
          refine lv_iinc (v := nI (i_ + 1)) (lv' := [(3, .int (nI (i_ + 1))), (4, .int (nI (it (nb x_) (i_ + 1) p_))), (0, .long x_), (2, .int (nI p_))]) hx hb dX3_cycleLength_29 hl (k := 3) rfl (nI_1 _) (by decide) rfl (fun ls hl => ?_)
          refine lv_goto (tgt := 9) hx hb dX3_cycleLength_32 (by decide) ?_
          exact ih9 (i_ + 1) (by omega) (by omega) (fun j_ h0_ hj_ => by rcases Nat.lt_or_ge j_ i_ with q_ | q_; exact hl_ j_ h0_ q_; rw [show j_ = i_ by omega]; exact c12) (by omega) _ (lv_sub hl [2, 3, 0, 1] rfl)
  exact L9 (16 - 1 + 1) 1 (by omega) (by omega) (fun j_ hj_ hk_ => by omega) (Nat.lt_succ_self _) _ (lv_sub hl [2, 3, 1, 0] rfl)
abbrev w_X3_toAfter : List Cond := Cond.code yX3_toAfter cX3_toAfter 8 (some .int) :: zAll
abbrev r_X3_toAfter : Room := { frames := 2, cells := 0, slots := 0, locals := 46 }
theorem zd_X3_toAfter : yX3_toAfter.cls ≠ "java/lang/invoke/MethodHandle" ∧ yX3_toAfter.cls ≠ "java/lang/invoke/VarHandle" ∧ (parseMethodDescriptor yX3_toAfter.desc).map (fun d => d.parameters.length) = some 3 := by decide +kernel
set_option maxHeartbeats 4000000 in
set_option maxRecDepth 100000 in
theorem c_X3_toAfter (l : Launch) (D : va_G) (cy : Nat → ClassId) (x_ : Int64) (n_ : Int32) (p_ : Nat) (hx_ : P16 (nb x_)) (hp : p_ < 16) : zMi l yX3_toAfter w_X3_toAfter r_X3_toAfter D cy [] [.long x_, .int n_, .int (nI p_)] (fun r_ => r_ = (nI (pw x_ n_.toInt p_))) := by
  refine zOfR (cc := cX3_toAfter) (maxL := 8) (ty := .int) (by decide) rfl (Nat.le_of_ble_eq_true rfl) ?_
  intro zp ze zs zm za zb zme zc hx hb hml hts hown hP hK Q kr ls hl
  have hown : zs.vm.findClass RX3 = some zm.cls := hown
  have hl : lv_has ls 8 [(0, .long x_), (2, .int n_), (3, .int (nI p_))] := hl
  have hc0 := cl_pos (nb x_) p_
  have hc1 := cl_le (nb x_) p_
  have hc2 : (n_.toInt % ((cl (nb x_) p_ : Nat) : Int)).toNat < 17 := zz_modlt n_.toInt x_ p_
  refine lv_lload_n hx hb dX3_toAfter_0 rfl (lv_at hl 0 rfl) ?_
  refine lv_iload_n hx hb dX3_toAfter_1 rfl (lv_at hl 2 rfl) ?_
  refine zcSi (As := [.long x_, .int (nI p_)]) (rest := []) ⟨hx, hb, hml, hown, hts⟩ (c_X3_cycleLength l D cy x_ p_ (by omega)) (va_cwS 2 hts (zG_S zw_172 zw_173 zw_119 zw_174) rfl rfl rfl zd_X3_cycleLength ⟨Nat.le_of_ble_eq_true rfl, Nat.le_of_ble_eq_true rfl⟩) hK hP [] rfl rfl hl.1 rfl (Nat.le_of_ble_eq_true rfl) dX3_toAfter_2 ⟨Nat.zero_le _, Nat.zero_le _⟩ (fun r2 h2 => ?_)
  subst h2
  refine lv_istore (lv' := [(4, .int (nI (cl (nb x_) p_))), (0, .long x_), (2, .int n_), (3, .int (nI p_))]) hx hb dX3_toAfter_5 hl (by decide) rfl (fun ls hl => ?_)
  refine lv_iload hx hb dX3_toAfter_7 (lv_at hl 0 rfl) ?_
  refine zb0_le (a := cl (nb x_) p_) (tgt := 21) hx hb dX3_toAfter_9 (by decide) (by omega) (fun hd_ => absurd hd_ (by omega)) (fun c9 => ?_)
  refine lv_iload_n hx hb dX3_toAfter_12 rfl (lv_at hl 2 rfl) ?_
  refine lv_iload hx hb dX3_toAfter_13 (lv_at hl 0 rfl) ?_
  refine zcSi (As := [.int n_, .int (nI (cl (nb x_) p_))]) (rest := []) ⟨hx, hb, hml, hown, hts⟩ (c_J9_floorMod_7cf53 l D cy n_ (cl (nb x_) p_) (by omega) (by omega)) (va_cwS 2 hts (zG_S zw_175 zw_176 zw_177 zw_178) rfl rfl rfl zd_J9_floorMod_7cf53 ⟨Nat.le_of_ble_eq_true rfl, Nat.le_of_ble_eq_true rfl⟩) hK hP [] rfl rfl hl.1 rfl (Nat.le_of_ble_eq_true rfl) dX3_toAfter_15 ⟨Nat.zero_le _, Nat.zero_le _⟩ (fun r15 h15 => ?_)
  subst h15
  refine lv_goto (tgt := 22) hx hb dX3_toAfter_18 (by decide) ?_
  refine lv_istore (lv' := [(5, .int (nI ((n_.toInt % ((cl (nb x_) p_) : Int)).toNat))), (4, .int (nI (cl (nb x_) p_))), (0, .long x_), (2, .int n_), (3, .int (nI p_))]) hx hb dX3_toAfter_22 hl (by decide) rfl (fun ls hl => ?_)
  refine lv_iload_n hx hb dX3_toAfter_24 rfl (lv_at hl 4 rfl) ?_
  refine zi_top (v := nI (it (nb x_) 0 p_)) rfl ?_
  refine lv_istore (lv' := [(6, .int (nI (it (nb x_) 0 p_))), (5, .int (nI ((n_.toInt % ((cl (nb x_) p_) : Int)).toNat))), (4, .int (nI (cl (nb x_) p_))), (0, .long x_), (2, .int n_), (3, .int (nI p_))]) hx hb dX3_toAfter_25 hl (by decide) rfl (fun ls hl => ?_)
  refine lv_iconst (v := nI 0) hx hb dX3_toAfter_27 (by decide) ?_
  refine lv_istore (lv' := [(7, .int (nI 0)), (6, .int (nI (it (nb x_) 0 p_))), (5, .int (nI ((n_.toInt % ((cl (nb x_) p_) : Int)).toNat))), (4, .int (nI (cl (nb x_) p_))), (0, .long x_), (2, .int n_), (3, .int (nI p_))]) hx hb dX3_toAfter_28 hl (by decide) rfl (fun ls hl => ?_)
  have L30 : ∀ (kf_ : Nat) (i_ : Nat) (hi : i_ ≤ (n_.toInt % ((cl (nb x_) p_ : Nat) : Int)).toNat), (n_.toInt % ((cl (nb x_) p_ : Nat) : Int)).toNat - i_ < kf_ → ∀ ls : Array Slot, lv_has ls 8 [(0, .long x_), (2, .int n_), (3, .int (nI p_)), (4, .int (nI (cl (nb x_) p_))), (5, .int (nI ((n_.toInt % ((cl (nb x_) p_) : Int)).toNat))), (6, .int (nI (it (nb x_) i_ p_))), (7, .int (nI i_))] → W zp l ze r_X3_toAfter zs zm za zb zme zc zs.heap [] 0 0 Q (F0 zm 30 ls []) := by
    intro kf_
    induction kf_ with
    | zero => intro i_ hi hk_; exact absurd hk_ (Nat.not_lt_zero _)
    | succ kf_ ih30 =>
      intro i_ hi hk_ ls hl
      refine lv_iload hx hb dX3_toAfter_30 (lv_at hl 6 rfl) ?_
      refine lv_iload hx hb dX3_toAfter_32 (lv_at hl 4 rfl) ?_
      refine zb_ge (a := i_) (b := (n_.toInt % ((cl (nb x_) p_) : Int)).toNat) (tgt := 51) hx hb dX3_toAfter_34 (by decide) (by omega) (by omega) (fun c34 => ?_) (fun c34 => ?_)
      · skip
        refine lv_iload hx hb dX3_toAfter_51 (lv_at hl 5 rfl) ?_
        exact kr _ _ _ dX3_toAfter_53 (vp_nar_int _) (by rw [show i_ = (n_.toInt % ((cl (nb x_) p_ : Nat) : Int)).toNat by omega]; exact congrArg nI (pw_mod hx_ hp _))
      · skip
        refine lv_lload_n hx hb dX3_toAfter_37 rfl (lv_at hl 0 rfl) ?_
        refine lv_iload hx hb dX3_toAfter_38 (lv_at hl 5 rfl) ?_
        refine zcSi (As := [.long x_, .int (nI (it (nb x_) i_ p_))]) (rest := []) ⟨hx, hb, hml, hown, hts⟩ (c_X3_to l D cy x_ (it (nb x_) i_ p_) (it_lt (fun q_ _ => nb_lt x_ q_) hp)) (va_cwS 2 hts (zG_S zw_121 zw_122 zw_119 zw_123) rfl rfl rfl zd_X3_to ⟨Nat.le_of_ble_eq_true rfl, Nat.le_of_ble_eq_true rfl⟩) hK hP [] rfl rfl hl.1 rfl (Nat.le_of_ble_eq_true rfl) dX3_toAfter_40 ⟨Nat.zero_le _, Nat.zero_le _⟩ (fun r40 h40 => ?_)
        subst h40
        refine zi_top (v := nI (it (nb x_) (i_ + 1) p_)) (congrArg nI (it_succ _ _ _).symm) ?_
        refine lv_istore (lv' := [(6, .int (nI (it (nb x_) (i_ + 1) p_))), (0, .long x_), (2, .int n_), (3, .int (nI p_)), (4, .int (nI (cl (nb x_) p_))), (5, .int (nI ((n_.toInt % ((cl (nb x_) p_) : Int)).toNat))), (7, .int (nI i_))]) hx hb dX3_toAfter_43 hl (by decide) rfl (fun ls hl => ?_)
        refine lv_iinc (v := nI (i_ + 1)) (lv' := [(7, .int (nI (i_ + 1))), (6, .int (nI (it (nb x_) (i_ + 1) p_))), (0, .long x_), (2, .int n_), (3, .int (nI p_)), (4, .int (nI (cl (nb x_) p_))), (5, .int (nI ((n_.toInt % ((cl (nb x_) p_) : Int)).toNat)))]) hx hb dX3_toAfter_45 hl (k := 6) rfl (nI_1 _) (by decide) rfl (fun ls hl => ?_)
        refine lv_goto (tgt := 30) hx hb dX3_toAfter_48 (by decide) ?_
        exact ih30 (i_ + 1) (by omega) (by omega) _ (lv_sub hl [2, 3, 4, 5, 6, 1, 0] rfl)
  exact L30 ((n_.toInt % ((cl (nb x_) p_ : Nat) : Int)).toNat - 0 + 1) 0 (by omega) (Nat.lt_succ_self _) _ (lv_sub hl [4, 5, 6, 3, 2, 1, 0] rfl)
abbrev w_X3_times : List Cond := Cond.code yX3_times cX3_times 6 (some .long) :: zAll
abbrev r_X3_times : Room := { frames := 3, cells := 0, slots := 0, locals := 73 }
theorem zd_X3_times : yX3_times.cls ≠ "java/lang/invoke/MethodHandle" ∧ yX3_times.cls ≠ "java/lang/invoke/VarHandle" ∧ (parseMethodDescriptor yX3_times.desc).map (fun d => d.parameters.length) = some 2 := by decide +kernel
set_option maxHeartbeats 4000000 in
set_option maxRecDepth 100000 in
theorem c_X3_times (l : Launch) (D : va_G) (cy : Nat → ClassId) (x_ : Int64) (n_ : Int32) (hx_ : P16 (nb x_)) : zMl l yX3_times w_X3_times r_X3_times D cy [] [.long x_, .int n_] (fun r_ => r_ = (timesL x_ n_.toInt)) := by
  refine zOfRl (cc := cX3_times) (maxL := 6) (by decide) rfl (Nat.le_of_ble_eq_true rfl) ?_
  intro zp ze zs zm za zb zme zc hx hb hml hts hown hP hK Q kr ls hl
  have hown : zs.vm.findClass RX3 = some zm.cls := hown
  have hl : lv_has ls 6 [(0, .long x_), (2, .int n_)] := hl
  refine lv_lconst (v := lN 0) hx hb dX3_times_0 rfl ?_
  refine zl_top (v := pk (zfl (pw x_ n_.toInt) 0)) (zfl_0 _) ?_
  refine lv_lstore_n (lv' := [(3, .long (pk (zfl (pw x_ n_.toInt) 0))), (0, .long x_), (2, .int n_)]) hx hb dX3_times_1 rfl hl (by decide) rfl (fun ls hl => ?_)
  refine lv_iconst (v := nI 0) hx hb dX3_times_2 (by decide) ?_
  refine lv_istore (lv' := [(5, .int (nI 0)), (3, .long (pk (zfl (pw x_ n_.toInt) 0))), (0, .long x_), (2, .int n_)]) hx hb dX3_times_3 hl (by decide) rfl (fun ls hl => ?_)
  have L5 : ∀ (kf_ : Nat) (i_ : Nat) (hi : i_ ≤ 16), 16 - i_ < kf_ → ∀ ls : Array Slot, lv_has ls 6 [(0, .long x_), (2, .int n_), (3, .long (pk (zfl (pw x_ n_.toInt) i_))), (5, .int (nI i_))] → W zp l ze r_X3_times zs zm za zb zme zc zs.heap [] 0 0 Q (F0 zm 5 ls []) := by
    intro kf_
    induction kf_ with
    | zero => intro i_ hi hk_; exact absurd hk_ (Nat.not_lt_zero _)
    | succ kf_ ih5 =>
      intro i_ hi hk_ ls hl
      refine lv_iload hx hb dX3_times_5 (lv_at hl 3 rfl) ?_
      refine lv_bipush (v := nI 16) hx hb dX3_times_7 (by decide) ?_
      refine zb_ge (a := i_) (b := 16) (tgt := 32) hx hb dX3_times_9 (by decide) (by omega) (by omega) (fun c9 => ?_) (fun c9 => ?_)
      · skip
        refine lv_lload_n hx hb dX3_times_32 rfl (lv_at hl 2 rfl) ?_
        exact kr _ _ _ dX3_times_33 (by rw [show i_ = 16 by omega]; exact zfl_e _)
      · skip
        refine lv_lload_n hx hb dX3_times_12 rfl (lv_at hl 2 rfl) ?_
        refine lv_iload hx hb dX3_times_13 (lv_at hl 3 rfl) ?_
        refine lv_lload_n hx hb dX3_times_15 rfl (lv_at hl 0 rfl) ?_
        refine lv_iload_n hx hb dX3_times_16 rfl (lv_at hl 1 rfl) ?_
        refine lv_iload hx hb dX3_times_17 (lv_at hl 3 rfl) ?_
        refine zcSi (As := [.long x_, .int n_, .int (nI i_)]) (rest := [.int (nI i_), .long (pk (zfl (pw x_ n_.toInt) i_))]) ⟨hx, hb, hml, hown, hts⟩ (c_X3_toAfter l D cy x_ n_ i_ hx_ (by omega)) (va_cwS 3 hts (zG_S zw_243 zw_170 zw_119 zw_171) rfl rfl rfl zd_X3_toAfter ⟨Nat.le_of_ble_eq_true rfl, Nat.le_of_ble_eq_true rfl⟩) hK hP [] rfl rfl hl.1 rfl (Nat.le_of_ble_eq_true rfl) dX3_times_19 ⟨Nat.zero_le _, Nat.zero_le _⟩ (fun r19 h19 => ?_)
        subst h19
        refine zcSl (As := [.long (pk (zfl (pw x_ n_.toInt) i_)), .int (nI i_), .int (nI (pw x_ n_.toInt i_))]) (rest := []) ⟨hx, hb, hml, hown, hts⟩ (c_X3_with l D cy (pk (zfl (pw x_ n_.toInt) i_)) i_ (pw x_ n_.toInt i_) (by omega) (pw_lt _ _ (by omega))) (va_cwS 3 hts (zG_S zw_223 zw_224 zw_119 zw_225) rfl rfl rfl zd_X3_with ⟨Nat.le_of_ble_eq_true rfl, Nat.le_of_ble_eq_true rfl⟩) hK hP [] rfl rfl hl.1 rfl (Nat.le_of_ble_eq_true rfl) dX3_times_22 ⟨Nat.zero_le _, Nat.zero_le _⟩ (fun r22 h22 => ?_)
        subst h22
        refine zl_top (v := pk (zfl (pw x_ n_.toInt) (i_ + 1))) (zfl_s (g := (pw x_ n_.toInt)) (by omega) (pw_lt _ _ (by omega))) ?_
        refine lv_lstore_n (lv' := [(3, .long (pk (zfl (pw x_ n_.toInt) (i_ + 1)))), (0, .long x_), (2, .int n_), (5, .int (nI i_))]) hx hb dX3_times_25 rfl hl (by decide) rfl (fun ls hl => ?_)
        refine lv_iinc (v := nI (i_ + 1)) (lv' := [(5, .int (nI (i_ + 1))), (3, .long (pk (zfl (pw x_ n_.toInt) (i_ + 1)))), (0, .long x_), (2, .int n_)]) hx hb dX3_times_26 hl (k := 3) rfl (nI_1 _) (by decide) rfl (fun ls hl => ?_)
        refine lv_goto (tgt := 5) hx hb dX3_times_29 (by decide) ?_
        exact ih5 (i_ + 1) (by omega) (by omega) _ (lv_sub hl [2, 3, 1, 0] rfl)
  exact L5 (16 - 0 + 1) 0 (by omega) (Nat.lt_succ_self _) _ (lv_sub hl [2, 3, 1, 0] rfl)
abbrev w_X3_fixedPlaces : List Cond := Cond.code yX3_fixedPlaces cX3_fixedPlaces 5 (some .int) :: zAll
abbrev r_X3_fixedPlaces : Room := { frames := 1, cells := 0, slots := 0, locals := 22 }
theorem zd_X3_fixedPlaces : yX3_fixedPlaces.cls ≠ "java/lang/invoke/MethodHandle" ∧ yX3_fixedPlaces.cls ≠ "java/lang/invoke/VarHandle" ∧ (parseMethodDescriptor yX3_fixedPlaces.desc).map (fun d => d.parameters.length) = some 2 := by decide +kernel
set_option maxHeartbeats 4000000 in
set_option maxRecDepth 100000 in
theorem c_X3_fixedPlaces (l : Launch) (D : va_G) (cy : Nat → ClassId) (x_ : Int64) (n_ : Nat) (hn : n_ ≤ 16) : zMi l yX3_fixedPlaces w_X3_fixedPlaces r_X3_fixedPlaces D cy [] [.long x_, .int (nI n_)] (fun r_ => r_ = (nI (fixM x_ n_))) := by
  refine zOfR (cc := cX3_fixedPlaces) (maxL := 5) (ty := .int) (by decide) rfl (Nat.le_of_ble_eq_true rfl) ?_
  intro zp ze zs zm za zb zme zc hx hb hml hts hown hP hK Q kr ls hl
  have hown : zs.vm.findClass RX3 = some zm.cls := hown
  have hl : lv_has ls 5 [(0, .long x_), (2, .int (nI n_))] := hl
  refine lv_iconst (v := nI 0) hx hb dX3_fixedPlaces_0 (by decide) ?_
  refine zi_top (v := nI (fixM x_ 0)) rfl ?_
  refine lv_istore_n (lv' := [(3, .int (nI (fixM x_ 0))), (0, .long x_), (2, .int (nI n_))]) hx hb dX3_fixedPlaces_1 rfl hl (by decide) rfl (fun ls hl => ?_)
  refine lv_iconst (v := nI 0) hx hb dX3_fixedPlaces_2 (by decide) ?_
  refine lv_istore (lv' := [(4, .int (nI 0)), (3, .int (nI (fixM x_ 0))), (0, .long x_), (2, .int (nI n_))]) hx hb dX3_fixedPlaces_3 hl (by decide) rfl (fun ls hl => ?_)
  have L5 : ∀ (kf_ : Nat) (i_ : Nat) (hi : i_ ≤ n_), n_ - i_ < kf_ → ∀ ls : Array Slot, lv_has ls 5 [(0, .long x_), (2, .int (nI n_)), (3, .int (nI (fixM x_ i_))), (4, .int (nI i_))] → W zp l ze r_X3_fixedPlaces zs zm za zb zme zc zs.heap [] 0 0 Q (F0 zm 5 ls []) := by
    intro kf_
    induction kf_ with
    | zero => intro i_ hi hk_; exact absurd hk_ (Nat.not_lt_zero _)
    | succ kf_ ih5 =>
      intro i_ hi hk_ ls hl
      refine lv_iload hx hb dX3_fixedPlaces_5 (lv_at hl 3 rfl) ?_
      refine lv_iload_n hx hb dX3_fixedPlaces_7 rfl (lv_at hl 1 rfl) ?_
      refine zb_ge (a := i_) (b := n_) (tgt := 35) hx hb dX3_fixedPlaces_8 (by decide) (by omega) (by omega) (fun c8 => ?_) (fun c8 => ?_)
      · skip
        refine lv_iload_n hx hb dX3_fixedPlaces_35 rfl (lv_at hl 2 rfl) ?_
        exact kr _ _ _ dX3_fixedPlaces_36 (vp_nar_int _) (by rw [show i_ = n_ by omega])
      · skip
        refine lv_lload_n hx hb dX3_fixedPlaces_11 rfl (lv_at hl 0 rfl) ?_
        refine lv_iload hx hb dX3_fixedPlaces_12 (lv_at hl 3 rfl) ?_
        refine zcSi (As := [.long x_, .int (nI i_)]) (rest := []) ⟨hx, hb, hml, hown, hts⟩ (c_X3_to l D cy x_ i_ (by omega)) (va_cwS 2 hts (zG_S zw_121 zw_122 zw_119 zw_123) rfl rfl rfl zd_X3_to ⟨Nat.le_of_ble_eq_true rfl, Nat.le_of_ble_eq_true rfl⟩) hK hP [] rfl rfl hl.1 rfl (Nat.le_of_ble_eq_true rfl) dX3_fixedPlaces_14 ⟨Nat.zero_le _, Nat.zero_le _⟩ (fun r14 h14 => ?_)
        subst h14
        refine lv_iload hx hb dX3_fixedPlaces_17 (lv_at hl 3 rfl) ?_
        have hb19 := nb_lt x_ i_
        refine zb_ne (a := nb x_ i_) (b := i_) (tgt := 29) hx hb dX3_fixedPlaces_19 (by decide) (by omega) (by omega) (fun c19 => ?_) (fun c19 => ?_)
        · skip
          have e_ : nI (fixM x_ i_) = nI (fixM x_ (i_ + 1)) := fixM_no c19
          rw [e_] at hl
          refine lv_iinc (v := nI (i_ + 1)) (lv' := [(4, .int (nI (i_ + 1))), (0, .long x_), (2, .int (nI n_)), (3, .int (nI (fixM x_ (i_ + 1))))]) hx hb dX3_fixedPlaces_29 hl (k := 3) rfl (nI_1 _) (by decide) rfl (fun ls hl => ?_)
          refine lv_goto (tgt := 5) hx hb dX3_fixedPlaces_32 (by decide) ?_
          exact ih5 (i_ + 1) (by omega) (by omega) _ (lv_sub hl [1, 2, 3, 0] rfl)
        · skip
          refine lv_iload_n hx hb dX3_fixedPlaces_22 rfl (lv_at hl 2 rfl) ?_
          refine lv_iconst (v := nI 1) hx hb dX3_fixedPlaces_23 (by decide) ?_
          refine lv_iload hx hb dX3_fixedPlaces_24 (lv_at hl 3 rfl) ?_
          refine zi_shl (v := nI (2 ^ i_)) hx hb dX3_fixedPlaces_26 (zz_shl1 (by omega)) ?_
          refine zi_or (v := nI (fixM x_ (i_ + 1))) hx hb dX3_fixedPlaces_27 (fixM_yes c19) ?_
          refine lv_istore_n (lv' := [(3, .int (nI (fixM x_ (i_ + 1)))), (0, .long x_), (2, .int (nI n_)), (4, .int (nI i_))]) hx hb dX3_fixedPlaces_28 rfl hl (by decide) rfl (fun ls hl => ?_)
          refine lv_iinc (v := nI (i_ + 1)) (lv' := [(4, .int (nI (i_ + 1))), (3, .int (nI (fixM x_ (i_ + 1)))), (0, .long x_), (2, .int (nI n_))]) hx hb dX3_fixedPlaces_29 hl (k := 3) rfl (nI_1 _) (by decide) rfl (fun ls hl => ?_)
          refine lv_goto (tgt := 5) hx hb dX3_fixedPlaces_32 (by decide) ?_
          exact ih5 (i_ + 1) (by omega) (by omega) _ (lv_sub hl [2, 3, 1, 0] rfl)
  exact L5 (n_ - 0 + 1) 0 (by omega) (Nat.lt_succ_self _) _ (lv_sub hl [2, 3, 1, 0] rfl)

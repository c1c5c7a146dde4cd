abbrev w_X0_ofDouble : List Cond := Cond.code yX0_ofDouble cX0_ofDouble 7 (some .long) :: zAll
abbrev r_X0_ofDouble : Room := { frames := 0, cells := 0, slots := 0, locals := 0 }
theorem zd_X0_ofDouble : yX0_ofDouble.cls ≠ "java/lang/invoke/MethodHandle" ∧ yX0_ofDouble.cls ≠ "java/lang/invoke/VarHandle" ∧ (parseMethodDescriptor yX0_ofDouble.desc).map (fun d => d.parameters.length) = some 1 := by decide +kernel
set_option maxHeartbeats 4000000 in
set_option maxRecDepth 100000 in
theorem c_X0_ofDouble (l : Launch) (D : va_G) (cy : Nat → ClassId) (v_ : UInt64) (r_x : Int64) (ho : ofDP v_ = some r_x) : zMl l yX0_ofDouble w_X0_ofDouble r_X0_ofDouble D cy [] [.double (v_)] (fun r_ => r_ = (r_x)) := by
  refine zOfRl (cc := cX0_ofDouble) (maxL := 7) (by decide) rfl (Nat.le_of_ble_eq_true rfl) ?_
  intro zp ze zs zm za zb zme zc hx hb hml hts hown hP hK Q kr ls hl
  have hown : zs.vm.findClass RX0 = some zm.cls := hown
  have hl : lv_has ls 7 [(0, .double (v_))] := hl
  refine lv_dload_n hx hb dX0_ofDouble_0 rfl (lv_at hl 0 rfl) ?_
  refine lv_dconst0 hx hb dX0_ofDouble_1 ?_
  refine lv_dcmp hx hb dX0_ofDouble_2 ?_
  refine zt0_gt (a := (Op.cmpValue (FP.dcmp v_ FP.dconst0) CmpOp.l).toInt) (tgt := 8) hx hb dX0_ofDouble_3 (by decide) rfl (fun c3 => ?_) (fun c3 => ?_)
  · skip
    obtain ⟨q_, x_, y_, z_, hl1, hl2, hn1, hn2, hr⟩ := ofDP_1 c3 ho
    refine lv_dload_n hx hb dX0_ofDouble_8 rfl (lv_at hl 0 rfl) ?_
    refine lv_dstore_n (lv' := [(2, .double (v_)), (0, .double (v_))]) hx hb dX0_ofDouble_9 rfl hl (by decide) rfl (fun ls hl => ?_)
    refine lv_iconst (v := nI 0) hx hb dX0_ofDouble_10 (by decide) ?_
    refine lv_istore (lv' := [(4, .int (nI 0)), (2, .double (v_)), (0, .double (v_))]) hx hb dX0_ofDouble_11 hl (by decide) rfl (fun ls hl => ?_)
    have L13 : ∀ (kf_ : Nat) (f_ : Nat) (p_ : UInt64) (e_ : Int32) (hlp : l1D f_ p_ e_ = some (q_, x_)), f_ < kf_ → ∀ ls : Array Slot, lv_has ls 7 [(0, .double (v_)), (2, .double (p_)), (4, .int e_)] → W zp l ze r_X0_ofDouble zs zm za zb zme zc zs.heap [] 0 0 Q (F0 zm 13 ls []) := by
      intro kf_
      induction kf_ with
      | zero => intro f_ p_ e_ hlp hk_; exact absurd hk_ (Nat.not_lt_zero _)
      | succ kf_ ih13 =>
        intro f_ p_ e_ hlp hk_ ls hl
        refine lv_dload_n hx hb dX0_ofDouble_13 rfl (lv_at hl 1 rfl) ?_
        refine lv_ldc2d hx hb hown (hts _ (List.mem_cons_of_mem _ zw_195)) dX0_ofDouble_14 ?_
        refine lv_dcmp hx hb dX0_ofDouble_17 ?_
        refine zt0_lt (a := (Op.cmpValue (FP.dcmp p_ (4611686018427387904 : UInt64)) CmpOp.l).toInt) (tgt := 41) hx hb dX0_ofDouble_18 (by decide) rfl (fun c18 => ?_) (fun c18 => ?_)
        · skip
          have L41 : ∀ (kf_ : Nat) (f_ : Nat) (p_ : UInt64) (e_ : Int32) (hlp : l2D f_ p_ e_ = some (y_, z_)), f_ < kf_ → ∀ ls : Array Slot, lv_has ls 7 [(0, .double (v_)), (2, .double (p_)), (4, .int e_)] → W zp l ze r_X0_ofDouble zs zm za zb zme zc zs.heap [] 0 0 Q (F0 zm 41 ls []) := by
            intro kf_
            induction kf_ with
            | zero => intro f_ p_ e_ hlp hk_; exact absurd hk_ (Nat.not_lt_zero _)
            | succ kf_ ih41 =>
              intro f_ p_ e_ hlp hk_ ls hl
              refine lv_dload_n hx hb dX0_ofDouble_41 rfl (lv_at hl 1 rfl) ?_
              refine lv_dconst1 hx hb dX0_ofDouble_42 ?_
              refine lv_dcmp hx hb dX0_ofDouble_43 ?_
              refine zt0_ge (a := (Op.cmpValue (FP.dcmp p_ FP.dconst1) CmpOp.g).toInt) (tgt := 67) hx hb dX0_ofDouble_44 (by decide) rfl (fun c44 => ?_) (fun c44 => ?_)
              · skip
                obtain ⟨hq1, hq2⟩ := l2_exit hlp c44
                subst hq1 hq2
                refine lv_dload_n hx hb dX0_ofDouble_67 rfl (lv_at hl 1 rfl) ?_
                refine lv_dconst1 hx hb dX0_ofDouble_68 ?_
                refine lv_dsub hx hb dX0_ofDouble_69 hn1 ?_
                refine lv_ldc2d hx hb hown (hts _ (List.mem_cons_of_mem _ zw_196)) dX0_ofDouble_70 ?_
                refine lv_dmul hx hb dX0_ofDouble_73 hn2 ?_
                refine lv_d2l hx hb dX0_ofDouble_74 ?_
                refine lv_lstore (lv' := [(5, .long (FP.d2l (FP.dmul (FP.dsub p_ FP.dconst1) (4841369599423283200 : UInt64)))), (0, .double (v_)), (2, .double (p_)), (4, .int e_)]) hx hb dX0_ofDouble_75 hl (by decide) rfl (fun ls hl => ?_)
                refine lv_iload hx hb dX0_ofDouble_77 (lv_at hl 3 rfl) ?_
                refine lv_sipush (v := nI 1023) hx hb dX0_ofDouble_79 (by decide) ?_
                refine zi_add (v := e_ + (nI 1023)) hx hb dX0_ofDouble_82 rfl ?_
                refine lv_i2l (v := (e_ + (nI 1023)).toInt64) hx hb dX0_ofDouble_83 rfl ?_
                refine lv_bipush (v := nI 52) hx hb dX0_ofDouble_84 (by decide) ?_
                refine lv_lshl (v := ((e_ + (nI 1023)).toInt64) <<< ((nI 52).toInt64 &&& 63)) hx hb dX0_ofDouble_86 rfl ?_
                refine lv_lload hx hb dX0_ofDouble_87 (lv_at hl 0 rfl) ?_
                refine zl_or (v := (((e_ + (nI 1023)).toInt64) <<< ((nI 52).toInt64 &&& 63)) ||| (FP.d2l (FP.dmul (FP.dsub p_ FP.dconst1) (4841369599423283200 : UInt64)))) hx hb dX0_ofDouble_89 rfl ?_
                exact kr _ _ _ dX0_ofDouble_90 hr
              · skip
                obtain ⟨g_, hg_, he_, hn_, hl_⟩ := l2_go hlp c44
                refine lv_iload hx hb dX0_ofDouble_47 (lv_at hl 2 rfl) ?_
                refine lv_sipush (v := (-1022)) hx hb dX0_ofDouble_49 (by decide) ?_
                refine zt_le (a := (e_).toInt) (b := (-1022)) (tgt := 67) hx hb dX0_ofDouble_52 (by decide) rfl rfl (fun hd_ => absurd hd_ (by omega)) (fun c52 => ?_)
                refine lv_dload_n hx hb dX0_ofDouble_55 rfl (lv_at hl 1 rfl) ?_
                refine lv_ldc2d hx hb hown (hts _ (List.mem_cons_of_mem _ zw_195)) dX0_ofDouble_56 ?_
                refine lv_dmul hx hb dX0_ofDouble_59 hn_ ?_
                refine lv_dstore_n (lv' := [(2, .double (FP.dmul p_ (4611686018427387904 : UInt64))), (0, .double (v_)), (4, .int e_)]) hx hb dX0_ofDouble_60 rfl hl (by decide) rfl (fun ls hl => ?_)
                refine lv_iinc (v := e_ + Int32.ofInt (-1)) (lv' := [(4, .int (e_ + Int32.ofInt (-1))), (2, .double (FP.dmul p_ (4611686018427387904 : UInt64))), (0, .double (v_))]) hx hb dX0_ofDouble_61 hl (k := 2) rfl rfl (by decide) rfl (fun ls hl => ?_)
                refine lv_goto (tgt := 41) hx hb dX0_ofDouble_64 (by decide) ?_
                exact ih41 g_ (FP.dmul p_ (4611686018427387904 : UInt64)) (e_ + Int32.ofInt (-1)) hl_ (by omega) _ (lv_sub hl [2, 1, 0] rfl)
          exact L41 (20 + 1) 20 p_ e_ (by rw [(l1_exit hlp c18).1, (l1_exit hlp c18).2]; exact hl2) (Nat.lt_succ_self _) _ (lv_sub hl [0, 1, 2] rfl)
        · skip
          obtain ⟨g_, hg_, he_, hn_, hl_⟩ := l1_go hlp c18
          refine lv_iload hx hb dX0_ofDouble_21 (lv_at hl 2 rfl) ?_
          refine lv_sipush (v := nI 1023) hx hb dX0_ofDouble_23 (by decide) ?_
          refine zt_ge (a := (e_).toInt) (b := ((1023 : Nat) : Int)) (tgt := 41) hx hb dX0_ofDouble_26 (by decide) rfl (nI_toInt (by omega)) (fun hd_ => absurd hd_ (by omega)) (fun c26 => ?_)
          refine lv_dload_n hx hb dX0_ofDouble_29 rfl (lv_at hl 1 rfl) ?_
          refine lv_ldc2d hx hb hown (hts _ (List.mem_cons_of_mem _ zw_195)) dX0_ofDouble_30 ?_
          refine lv_ddiv hx hb dX0_ofDouble_33 hn_ ?_
          refine lv_dstore_n (lv' := [(2, .double (FP.ddiv p_ (4611686018427387904 : UInt64))), (0, .double (v_)), (4, .int e_)]) hx hb dX0_ofDouble_34 rfl hl (by decide) rfl (fun ls hl => ?_)
          refine lv_iinc (v := e_ + Int32.ofInt (1)) (lv' := [(4, .int (e_ + Int32.ofInt (1))), (2, .double (FP.ddiv p_ (4611686018427387904 : UInt64))), (0, .double (v_))]) hx hb dX0_ofDouble_35 hl (k := 2) rfl rfl (by decide) rfl (fun ls hl => ?_)
          refine lv_goto (tgt := 13) hx hb dX0_ofDouble_38 (by decide) ?_
          exact ih13 g_ (FP.ddiv p_ (4611686018427387904 : UInt64)) (e_ + Int32.ofInt (1)) hl_ (by omega) _ (lv_sub hl [2, 1, 0] rfl)
    exact L13 (20 + 1) 20 v_ (nI 0) hl1 (Nat.lt_succ_self _) _ (lv_sub hl [2, 1, 0] rfl)
  · skip
    refine lv_lconst (v := lN 0) hx hb dX0_ofDouble_6 rfl ?_
    exact kr _ _ _ dX0_ofDouble_7 (ofDP_0 c3 ho)
abbrev w_X0_ofShare : List Cond := Cond.code yX0_ofShare cX0_ofShare 4 (some .int) :: zAll
abbrev r_X0_ofShare : Room := { frames := 0, cells := 0, slots := 0, locals := 0 }
theorem zd_X0_ofShare : yX0_ofShare.cls ≠ "java/lang/invoke/MethodHandle" ∧ yX0_ofShare.cls ≠ "java/lang/invoke/VarHandle" ∧ (parseMethodDescriptor yX0_ofShare.desc).map (fun d => d.parameters.length) = some 1 := by decide +kernel
set_option maxHeartbeats 4000000 in
set_option maxRecDepth 100000 in
theorem c_X0_ofShare (l : Launch) (D : va_G) (cy : Nat → ClassId) (v_ : UInt32) (r_x : Int32) (ho : ofSH v_ = some r_x) : zMi l yX0_ofShare w_X0_ofShare r_X0_ofShare D cy [] [.float (v_)] (fun r_ => r_ = (r_x)) := by
  refine zOfR (cc := cX0_ofShare) (maxL := 4) (ty := .int) (by decide) rfl (Nat.le_of_ble_eq_true rfl) ?_
  intro zp ze zs zm za zb zme zc hx hb hml hts hown hP hK Q kr ls hl
  have hown : zs.vm.findClass RX0 = some zm.cls := hown
  have hl : lv_has ls 4 [(0, .float (v_))] := hl
  refine lv_fload_n hx hb dX0_ofShare_0 rfl (lv_at hl 0 rfl) ?_
  refine lv_fconst0 hx hb dX0_ofShare_1 ?_
  refine lv_fcmp hx hb dX0_ofShare_2 ?_
  refine zt0_gt (a := (Op.cmpValue (FP.fcmp v_ FP.fconst0) CmpOp.l).toInt) (tgt := 8) hx hb dX0_ofShare_3 (by decide) rfl (fun c3 => ?_) (fun c3 => ?_)
  · skip
    obtain ⟨y_, z_, hl1, hn1, hn2, hr⟩ := ofSH_1 c3 ho
    refine lv_fload_n hx hb dX0_ofShare_8 rfl (lv_at hl 0 rfl) ?_
    refine lv_fstore_n (lv' := [(1, .float (v_)), (0, .float (v_))]) hx hb dX0_ofShare_9 rfl hl (by decide) rfl (fun ls hl => ?_)
    refine lv_iconst (v := nI 0) hx hb dX0_ofShare_10 (by decide) ?_
    refine lv_istore_n (lv' := [(2, .int (nI 0)), (1, .float (v_)), (0, .float (v_))]) hx hb dX0_ofShare_11 rfl hl (by decide) rfl (fun ls hl => ?_)
    have L12 : ∀ (kf_ : Nat) (f_ : Nat) (p_ : UInt32) (e_ : Int32) (hlp : m1F f_ p_ e_ = some (y_, z_)), f_ < kf_ → ∀ ls : Array Slot, lv_has ls 4 [(0, .float (v_)), (1, .float (p_)), (2, .int e_)] → W zp l ze r_X0_ofShare zs zm za zb zme zc zs.heap [] 0 0 Q (F0 zm 12 ls []) := by
      intro kf_
      induction kf_ with
      | zero => intro f_ p_ e_ hlp hk_; exact absurd hk_ (Nat.not_lt_zero _)
      | succ kf_ ih12 =>
        intro f_ p_ e_ hlp hk_ ls hl
        refine lv_fload_n hx hb dX0_ofShare_12 rfl (lv_at hl 1 rfl) ?_
        refine lv_fconst1 hx hb dX0_ofShare_13 ?_
        refine lv_fcmp hx hb dX0_ofShare_14 ?_
        refine zt0_ge (a := (Op.cmpValue (FP.fcmp p_ FP.fconst1) CmpOp.g).toInt) (tgt := 34) hx hb dX0_ofShare_15 (by decide) rfl (fun c15 => ?_) (fun c15 => ?_)
        · skip
          obtain ⟨hq1, hq2⟩ := m1_exit hlp c15
          subst hq1 hq2
          refine lv_fload_n hx hb dX0_ofShare_34 rfl (lv_at hl 1 rfl) ?_
          refine lv_fconst1 hx hb dX0_ofShare_35 ?_
          refine lv_fsub hx hb dX0_ofShare_36 hn1 ?_
          refine lv_ldcf hx hb hown (hts _ (List.mem_cons_of_mem _ zw_187)) dX0_ofShare_37 ?_
          refine lv_fmul hx hb dX0_ofShare_39 hn2 ?_
          refine lv_f2i hx hb dX0_ofShare_40 ?_
          refine lv_istore_n (lv' := [(3, .int (FP.f2i (FP.fmul (FP.fsub p_ FP.fconst1) (1258291200 : UInt32)))), (0, .float (v_)), (1, .float (p_)), (2, .int e_)]) hx hb dX0_ofShare_41 rfl hl (by decide) rfl (fun ls hl => ?_)
          refine lv_iload_n hx hb dX0_ofShare_42 rfl (lv_at hl 3 rfl) ?_
          refine lv_bipush (v := nI 127) hx hb dX0_ofShare_43 (by decide) ?_
          refine zi_add (v := e_ + (nI 127)) hx hb dX0_ofShare_45 rfl ?_
          refine lv_bipush (v := nI 23) hx hb dX0_ofShare_46 (by decide) ?_
          refine zi_shl (v := (e_ + (nI 127)) <<< ((nI 23) &&& 31)) hx hb dX0_ofShare_48 rfl ?_
          refine lv_iload_n hx hb dX0_ofShare_49 rfl (lv_at hl 0 rfl) ?_
          refine zi_or (v := ((e_ + (nI 127)) <<< ((nI 23) &&& 31)) ||| (FP.f2i (FP.fmul (FP.fsub p_ FP.fconst1) (1258291200 : UInt32)))) hx hb dX0_ofShare_50 rfl ?_
          exact kr _ _ _ dX0_ofShare_51 (vp_nar_int _) hr
        · skip
          obtain ⟨g_, hg_, he_, hn_, hl_⟩ := m1_go hlp c15
          refine lv_iload_n hx hb dX0_ofShare_18 rfl (lv_at hl 2 rfl) ?_
          refine lv_bipush (v := (-126)) hx hb dX0_ofShare_19 (by decide) ?_
          refine zt_le (a := (e_).toInt) (b := (-126)) (tgt := 34) hx hb dX0_ofShare_21 (by decide) rfl rfl (fun hd_ => absurd hd_ (by omega)) (fun c21 => ?_)
          refine lv_fload_n hx hb dX0_ofShare_24 rfl (lv_at hl 1 rfl) ?_
          refine lv_fconst2 hx hb dX0_ofShare_25 ?_
          refine lv_fmul hx hb dX0_ofShare_26 hn_ ?_
          refine lv_fstore_n (lv' := [(1, .float (FP.fmul p_ FP.fconst2)), (0, .float (v_)), (2, .int e_)]) hx hb dX0_ofShare_27 rfl hl (by decide) rfl (fun ls hl => ?_)
          refine lv_iinc (v := e_ + Int32.ofInt (-1)) (lv' := [(2, .int (e_ + Int32.ofInt (-1))), (1, .float (FP.fmul p_ FP.fconst2)), (0, .float (v_))]) hx hb dX0_ofShare_28 hl (k := 2) rfl rfl (by decide) rfl (fun ls hl => ?_)
          refine lv_goto (tgt := 12) hx hb dX0_ofShare_31 (by decide) ?_
          exact ih12 g_ (FP.fmul p_ FP.fconst2) (e_ + Int32.ofInt (-1)) hl_ (by omega) _ (lv_sub hl [2, 1, 0] rfl)
    exact L12 (20 + 1) 20 v_ (nI 0) hl1 (Nat.lt_succ_self _) _ (lv_sub hl [2, 1, 0] rfl)
  · skip
    refine lv_iconst (v := nI 0) hx hb dX0_ofShare_6 (by decide) ?_
    exact kr _ _ _ dX0_ofShare_7 (vp_nar_int _) (ofSH_0 c3 ho)

abbrev w_X8_begins : List Cond := Cond.code yX8_begins cX8_begins 3 none :: zAll
abbrev r_X8_begins : Room := { frames := 0, cells := 0, slots := 0, locals := 0 }
theorem zd_X8_begins : yX8_begins.cls = RX8 ∧ yX8_begins.cls ≠ "java/lang/invoke/MethodHandle" ∧ yX8_begins.cls ≠ "java/lang/invoke/VarHandle" ∧ (parseMethodDescriptor yX8_begins.desc).map (fun d => d.parameters.length) = some 1 := by decide +kernel
set_option maxHeartbeats 4000000 in
set_option maxRecDepth 100000 in
theorem c_X8_begins (l : Launch) (D : va_G) (cy : Nat → ClassId) (sz : Nat) (bd : Nat → Nat) (um_ : Nat) (ln_ : Nat) (at_ : Nat) (iw_ : Bool) (f_ : Nat → Nat) (n_ : Nat) (hn : n_ ≤ 16) : zWv l yX8_begins w_X8_begins r_X8_begins D cy [((bd 0), .inr (5, [.int (nI 0), .ref (bd 1), .ref (bd 2), .int (nI um_), .ref (bd 3), .ref (bd 4), .ref (bd 5), .int (nI ln_), .int (nI at_), .int (if iw_ = true then 1 else 0), .ref (bd 6), .ref (bd 7), .ref (bd 8), .ref (bd 9), .ref (bd 10), .ref (bd 11), .ref (bd 12), .ref (bd 13), .ref (bd 14)])), ((bd 1), .inl (cy 0, 130, .inl (nIf f_)))] sz [.ref (bd 0), .int (nI n_)] (fun u : (Nat → Nat) => u 0 = n_ ∧ u 1 = 0 ∧ (∀ z_, z_ < n_ → u (2 + z_) = z_) ∧ ∀ z_, z_ < n_ → u (18 + z_) = z_) (fun u : (Nat → Nat) => ([((bd 0), .inr (5, [.int (nI 0), .ref (bd 1), .ref (bd 2), .int (nI um_), .ref (bd 3), .ref (bd 4), .ref (bd 5), .int (nI ln_), .int (nI at_), .int (if iw_ = true then 1 else 0), .ref (bd 6), .ref (bd 7), .ref (bd 8), .ref (bd 9), .ref (bd 10), .ref (bd 11), .ref (bd 12), .ref (bd 13), .ref (bd 14)])), ((bd 1), .inl (cy 0, 130, .inl (nIf u)))] : va_W)) 0 0 := by
  refine zOfV (cc := cX8_begins) (maxL := 3) (by decide) rfl (Nat.le_of_ble_eq_true rfl) ?_
  intro zp ze zs zm za zb zme zc hx hb hml hts hown hP hK zA hD hA Q kr ls hl hin
  have hS : va_S zA zs.heap zs.heap [] := va_S.rf
  have hown : zs.vm.findClass RX8 = some zm.cls := hown
  have hl : lv_has ls 3 [(0, .ref (bd 0)), (1, .int (nI n_))] := hl
  refine lv_iconst (v := nI 0) hx hb dX8_begins_0 (by decide) ?_
  refine lv_istore_n (lv' := [(2, .int (nI 0)), (0, .ref (bd 0)), (1, .int (nI n_))]) hx hb dX8_begins_1 rfl hl (by decide) rfl (fun ls hl => ?_)
  have L2 : ∀ (kf_ : Nat) (i_ : Nat) (w_ : Nat → Nat) (hi : i_ ≤ 130) (hz : ∀ z_, z_ < i_ → w_ z_ = 0), 130 - i_ < kf_ → ∀ (H : Heap) (locs : List Loc), va_P D vwCl [((bd 0), .inr (5, [.int (nI 0), .ref (bd 1), .ref (bd 2), .int (nI um_), .ref (bd 3), .ref (bd 4), .ref (bd 5), .int (nI ln_), .int (nI at_), .int (if iw_ = true then 1 else 0), .ref (bd 6), .ref (bd 7), .ref (bd 8), .ref (bd 9), .ref (bd 10), .ref (bd 11), .ref (bd 12), .ref (bd 13), .ref (bd 14)])), ((bd 1), .inl (cy 0, 130, .inl (nIf w_)))] H → va_D zA [((bd 0), .inr (5, [.int (nI 0), .ref (bd 1), .ref (bd 2), .int (nI um_), .ref (bd 3), .ref (bd 4), .ref (bd 5), .int (nI ln_), .int (nI at_), .int (if iw_ = true then 1 else 0), .ref (bd 6), .ref (bd 7), .ref (bd 8), .ref (bd 9), .ref (bd 10), .ref (bd 11), .ref (bd 12), .ref (bd 13), .ref (bd 14)])), ((bd 1), .inl (cy 0, 130, .inl (nIf w_)))] → va_S zA zs.heap H locs → ∀ ls : Array Slot, lv_has ls 3 [(0, .ref (bd 0)), (1, .int (nI n_)), (2, .int (nI i_))] → W zp l ze r_X8_begins zs zm za zb zme zc H locs 0 0 Q (F0 zm 2 ls []) := by
    intro kf_
    induction kf_ with
    | zero => intro i_ w_ hi hz hk_; exact absurd hk_ (Nat.not_lt_zero _)
    | succ kf_ ih2 =>
      intro i_ w_ hi hz hk_ H locs hP hD hS ls hl
      refine lv_iload_n hx hb dX8_begins_2 rfl (lv_at hl 2 rfl) ?_
      refine lv_sipush (v := nI 130) hx hb dX8_begins_3 (by decide) ?_
      refine zb_ge (a := i_) (b := 130) (tgt := 22) hx hb dX8_begins_6 (by decide) (by omega) (by omega) (fun c6 => ?_) (fun c6 => ?_)
      · skip
        refine lv_aload_n hx hb dX8_begins_22 rfl (lv_at hl 0 rfl) ?_
        refine va_get (D := D) (ci := 5) (v := .ref (bd 1)) (C := RX8) (T := TX8) (N := 19) hx hb hts (fun w h => List.mem_cons_of_mem _ (zinX8 w h)) hown hK.1 hP 0 rfl rfl 1 (by decide) (hts _ (List.mem_cons_of_mem _ zw_74)) (fun _ h9 => h9) rfl dX8_begins_23 ?_
        refine lv_iconst (v := nI 0) hx hb dX8_begins_26 (by decide) ?_
        refine lv_iload_n hx hb dX8_begins_27 rfl (lv_at hl 1 rfl) ?_
        refine zi_iast hx hb hK hP hD hS 1 rfl (by omega) (by omega) dX8_begins_28 (fun H locs hP hD hS => ?_)
        rw [upd_nIf] at hP hD
        have hP : va_P D vwCl [((bd 0), .inr (5, [.int (nI 0), .ref (bd 1), .ref (bd 2), .int (nI um_), .ref (bd 3), .ref (bd 4), .ref (bd 5), .int (nI ln_), .int (nI at_), .int (if iw_ = true then 1 else 0), .ref (bd 6), .ref (bd 7), .ref (bd 8), .ref (bd 9), .ref (bd 10), .ref (bd 11), .ref (bd 12), .ref (bd 13), .ref (bd 14)])), ((bd 1), .inl (cy 0, 130, .inl (nIf (uN1 w_ 0 n_))))] H := hP
        have hD : va_D zA [((bd 0), .inr (5, [.int (nI 0), .ref (bd 1), .ref (bd 2), .int (nI um_), .ref (bd 3), .ref (bd 4), .ref (bd 5), .int (nI ln_), .int (nI at_), .int (if iw_ = true then 1 else 0), .ref (bd 6), .ref (bd 7), .ref (bd 8), .ref (bd 9), .ref (bd 10), .ref (bd 11), .ref (bd 12), .ref (bd 13), .ref (bd 14)])), ((bd 1), .inl (cy 0, 130, .inl (nIf (uN1 w_ 0 n_))))] := hD
        refine lv_iconst (v := nI 0) hx hb dX8_begins_29 (by decide) ?_
        refine lv_istore_n (lv' := [(2, .int (nI 0)), (0, .ref (bd 0)), (1, .int (nI n_))]) hx hb dX8_begins_30 rfl hl (by decide) rfl (fun ls hl => ?_)
        have L31 : ∀ (kf_ : Nat) (i_ : Nat) (w_ : Nat → Nat) (hi : i_ ≤ n_) (h0 : w_ 0 = n_) (h1 : w_ 1 = 0) (hP_ : ∀ z_, z_ < i_ → w_ (2 + z_) = z_) (hT_ : ∀ z_, z_ < i_ → w_ (18 + z_) = z_), n_ - i_ < kf_ → ∀ (H : Heap) (locs : List Loc), va_P D vwCl [((bd 0), .inr (5, [.int (nI 0), .ref (bd 1), .ref (bd 2), .int (nI um_), .ref (bd 3), .ref (bd 4), .ref (bd 5), .int (nI ln_), .int (nI at_), .int (if iw_ = true then 1 else 0), .ref (bd 6), .ref (bd 7), .ref (bd 8), .ref (bd 9), .ref (bd 10), .ref (bd 11), .ref (bd 12), .ref (bd 13), .ref (bd 14)])), ((bd 1), .inl (cy 0, 130, .inl (nIf w_)))] H → va_D zA [((bd 0), .inr (5, [.int (nI 0), .ref (bd 1), .ref (bd 2), .int (nI um_), .ref (bd 3), .ref (bd 4), .ref (bd 5), .int (nI ln_), .int (nI at_), .int (if iw_ = true then 1 else 0), .ref (bd 6), .ref (bd 7), .ref (bd 8), .ref (bd 9), .ref (bd 10), .ref (bd 11), .ref (bd 12), .ref (bd 13), .ref (bd 14)])), ((bd 1), .inl (cy 0, 130, .inl (nIf w_)))] → va_S zA zs.heap H locs → ∀ ls : Array Slot, lv_has ls 3 [(0, .ref (bd 0)), (1, .int (nI n_)), (2, .int (nI i_))] → W zp l ze r_X8_begins zs zm za zb zme zc H locs 0 0 Q (F0 zm 31 ls []) := by
          intro kf_
          induction kf_ with
          | zero => intro i_ w_ hi h0 h1 hP_ hT_ hk_; exact absurd hk_ (Nat.not_lt_zero _)
          | succ kf_ ih31 =>
            intro i_ w_ hi h0 h1 hP_ hT_ hk_ H locs hP hD hS ls hl
            refine lv_iload_n hx hb dX8_begins_31 rfl (lv_at hl 2 rfl) ?_
            refine lv_iload_n hx hb dX8_begins_32 rfl (lv_at hl 1 rfl) ?_
            refine zb_ge (a := i_) (b := n_) (tgt := 61) hx hb dX8_begins_33 (by decide) (by omega) (by omega) (fun c33 => ?_) (fun c33 => ?_)
            · skip
              exact kr w_ _ _ _ _ dX8_begins_61 ⟨h0, h1, fun z_ hz_ => hP_ z_ (by omega), fun z_ hz_ => hT_ z_ (by omega)⟩ hP hD hS
            · skip
              refine lv_aload_n hx hb dX8_begins_36 rfl (lv_at hl 0 rfl) ?_
              refine va_get (D := D) (ci := 5) (v := .ref (bd 1)) (C := RX8) (T := TX8) (N := 19) hx hb hts (fun w h => List.mem_cons_of_mem _ (zinX8 w h)) hown hK.1 hP 0 rfl rfl 1 (by decide) (hts _ (List.mem_cons_of_mem _ zw_74)) (fun _ h9 => h9) rfl dX8_begins_37 ?_
              refine lv_iconst (v := nI 2) hx hb dX8_begins_40 (by decide) ?_
              refine lv_iload_n hx hb dX8_begins_41 rfl (lv_at hl 2 rfl) ?_
              refine zi_add (v := nI (2 + i_)) hx hb dX8_begins_42 (nI_add _ _) ?_
              refine lv_iload_n hx hb dX8_begins_43 rfl (lv_at hl 2 rfl) ?_
              refine zi_iast hx hb hK hP hD hS 1 rfl (by omega) (by omega) dX8_begins_44 (fun H locs hP hD hS => ?_)
              rw [upd_nIf] at hP hD
              have hP : va_P D vwCl [((bd 0), .inr (5, [.int (nI 0), .ref (bd 1), .ref (bd 2), .int (nI um_), .ref (bd 3), .ref (bd 4), .ref (bd 5), .int (nI ln_), .int (nI at_), .int (if iw_ = true then 1 else 0), .ref (bd 6), .ref (bd 7), .ref (bd 8), .ref (bd 9), .ref (bd 10), .ref (bd 11), .ref (bd 12), .ref (bd 13), .ref (bd 14)])), ((bd 1), .inl (cy 0, 130, .inl (nIf (uN1 w_ (2 + i_) i_))))] H := hP
              have hD : va_D zA [((bd 0), .inr (5, [.int (nI 0), .ref (bd 1), .ref (bd 2), .int (nI um_), .ref (bd 3), .ref (bd 4), .ref (bd 5), .int (nI ln_), .int (nI at_), .int (if iw_ = true then 1 else 0), .ref (bd 6), .ref (bd 7), .ref (bd 8), .ref (bd 9), .ref (bd 10), .ref (bd 11), .ref (bd 12), .ref (bd 13), .ref (bd 14)])), ((bd 1), .inl (cy 0, 130, .inl (nIf (uN1 w_ (2 + i_) i_))))] := hD
              refine lv_aload_n hx hb dX8_begins_45 rfl (lv_at hl 0 rfl) ?_
              refine va_get (D := D) (ci := 5) (v := .ref (bd 1)) (C := RX8) (T := TX8) (N := 19) hx hb hts (fun w h => List.mem_cons_of_mem _ (zinX8 w h)) hown hK.1 hP 0 rfl rfl 1 (by decide) (hts _ (List.mem_cons_of_mem _ zw_74)) (fun _ h9 => h9) rfl dX8_begins_46 ?_
              refine lv_bipush (v := nI 18) hx hb dX8_begins_49 (by decide) ?_
              refine lv_iload_n hx hb dX8_begins_51 rfl (lv_at hl 2 rfl) ?_
              refine zi_add (v := nI (18 + i_)) hx hb dX8_begins_52 (nI_add _ _) ?_
              refine lv_iload_n hx hb dX8_begins_53 rfl (lv_at hl 2 rfl) ?_
              refine zi_iast hx hb hK hP hD hS 1 rfl (by omega) (by omega) dX8_begins_54 (fun H locs hP hD hS => ?_)
              rw [upd_nIf] at hP hD
              have hP : va_P D vwCl [((bd 0), .inr (5, [.int (nI 0), .ref (bd 1), .ref (bd 2), .int (nI um_), .ref (bd 3), .ref (bd 4), .ref (bd 5), .int (nI ln_), .int (nI at_), .int (if iw_ = true then 1 else 0), .ref (bd 6), .ref (bd 7), .ref (bd 8), .ref (bd 9), .ref (bd 10), .ref (bd 11), .ref (bd 12), .ref (bd 13), .ref (bd 14)])), ((bd 1), .inl (cy 0, 130, .inl (nIf (uN1 (uN1 w_ (2 + i_) i_) (18 + i_) i_))))] H := hP
              have hD : va_D zA [((bd 0), .inr (5, [.int (nI 0), .ref (bd 1), .ref (bd 2), .int (nI um_), .ref (bd 3), .ref (bd 4), .ref (bd 5), .int (nI ln_), .int (nI at_), .int (if iw_ = true then 1 else 0), .ref (bd 6), .ref (bd 7), .ref (bd 8), .ref (bd 9), .ref (bd 10), .ref (bd 11), .ref (bd 12), .ref (bd 13), .ref (bd 14)])), ((bd 1), .inl (cy 0, 130, .inl (nIf (uN1 (uN1 w_ (2 + i_) i_) (18 + i_) i_))))] := hD
              refine lv_iinc (v := nI (i_ + 1)) (lv' := [(2, .int (nI (i_ + 1))), (0, .ref (bd 0)), (1, .int (nI n_))]) hx hb dX8_begins_55 hl (k := 2) rfl (nI_1 _) (by decide) rfl (fun ls hl => ?_)
              refine lv_goto (tgt := 31) hx hb dX8_begins_58 (by decide) ?_
              exact ih31 (i_ + 1) (uN1 (uN1 w_ (2 + i_) i_) (18 + i_) i_) (by omega) ((uN1_n _ (by omega)).trans ((uN1_n _ (by omega)).trans h0)) ((uN1_n _ (by omega)).trans ((uN1_n _ (by omega)).trans h1)) (fun z_ hz_ => by rw [uN1_n _ (show 2 + z_ ≠ 18 + i_ by omega)]; by_cases q_ : z_ = i_; subst q_; exact uN1_s _ _ _; rw [uN1_n _ (by omega)]; exact hP_ z_ (by omega)) (fun z_ hz_ => by by_cases q_ : z_ = i_; subst q_; exact uN1_s _ _ _; rw [uN1_n _ (by omega), uN1_n _ (by omega)]; exact hT_ z_ (by omega)) (by omega) _ _ hP hD hS _ (lv_sub hl [1, 2, 0] rfl)
        exact L31 (n_ - 0 + 1) 0 (uN1 w_ 0 n_) (Nat.zero_le _) (uN1_s _ _ _) ((uN1_n _ (by decide)).trans (hz 1 (by omega))) (fun z_ hz_ => absurd hz_ (Nat.not_lt_zero _)) (fun z_ hz_ => absurd hz_ (Nat.not_lt_zero _)) (Nat.lt_succ_self _) _ _ hP hD hS _ (lv_sub hl [1, 2, 0] rfl)
      · skip
        refine lv_aload_n hx hb dX8_begins_9 rfl (lv_at hl 0 rfl) ?_
        refine va_get (D := D) (ci := 5) (v := .ref (bd 1)) (C := RX8) (T := TX8) (N := 19) hx hb hts (fun w h => List.mem_cons_of_mem _ (zinX8 w h)) hown hK.1 hP 0 rfl rfl 1 (by decide) (hts _ (List.mem_cons_of_mem _ zw_74)) (fun _ h9 => h9) rfl dX8_begins_10 ?_
        refine lv_iload_n hx hb dX8_begins_13 rfl (lv_at hl 2 rfl) ?_
        refine lv_iconst (v := nI 0) hx hb dX8_begins_14 (by decide) ?_
        refine zi_iast hx hb hK hP hD hS 1 rfl (by omega) (by omega) dX8_begins_15 (fun H locs hP hD hS => ?_)
        rw [upd_nIf] at hP hD
        have hP : va_P D vwCl [((bd 0), .inr (5, [.int (nI 0), .ref (bd 1), .ref (bd 2), .int (nI um_), .ref (bd 3), .ref (bd 4), .ref (bd 5), .int (nI ln_), .int (nI at_), .int (if iw_ = true then 1 else 0), .ref (bd 6), .ref (bd 7), .ref (bd 8), .ref (bd 9), .ref (bd 10), .ref (bd 11), .ref (bd 12), .ref (bd 13), .ref (bd 14)])), ((bd 1), .inl (cy 0, 130, .inl (nIf (uN1 w_ i_ 0))))] H := hP
        have hD : va_D zA [((bd 0), .inr (5, [.int (nI 0), .ref (bd 1), .ref (bd 2), .int (nI um_), .ref (bd 3), .ref (bd 4), .ref (bd 5), .int (nI ln_), .int (nI at_), .int (if iw_ = true then 1 else 0), .ref (bd 6), .ref (bd 7), .ref (bd 8), .ref (bd 9), .ref (bd 10), .ref (bd 11), .ref (bd 12), .ref (bd 13), .ref (bd 14)])), ((bd 1), .inl (cy 0, 130, .inl (nIf (uN1 w_ i_ 0))))] := hD
        refine lv_iinc (v := nI (i_ + 1)) (lv' := [(2, .int (nI (i_ + 1))), (0, .ref (bd 0)), (1, .int (nI n_))]) hx hb dX8_begins_16 hl (k := 2) rfl (nI_1 _) (by decide) rfl (fun ls hl => ?_)
        refine lv_goto (tgt := 2) hx hb dX8_begins_19 (by decide) ?_
        exact ih2 (i_ + 1) (uN1 w_ i_ 0) (by omega) (fun z_ hz_ => by unfold uN1; split; rfl; exact hz z_ (by omega)) (by omega) _ _ hP hD hS _ (lv_sub hl [1, 2, 0] rfl)
  exact L2 (130 - 0 + 1) 0 f_ (Nat.zero_le _) (fun z_ hz_ => absurd hz_ (Nat.not_lt_zero _)) (Nat.lt_succ_self _) _ _ hP hD hS _ (lv_sub hl [1, 2, 0] rfl)
abbrev w_X8_records : List Cond := Cond.code yX8_records cX8_records 2 none :: zAll
abbrev r_X8_records : Room := { frames := 0, cells := 0, slots := 0, locals := 0 }
theorem zd_X8_records : yX8_records.cls = RX8 ∧ yX8_records.cls ≠ "java/lang/invoke/MethodHandle" ∧ yX8_records.cls ≠ "java/lang/invoke/VarHandle" ∧ (parseMethodDescriptor yX8_records.desc).map (fun d => d.parameters.length) = some 0 := by decide +kernel
set_option maxHeartbeats 4000000 in
set_option maxRecDepth 100000 in
theorem c_X8_records (l : Launch) (D : va_G) (cy : Nat → ClassId) (sz : Nat) (bd : Nat → Nat) (um_ : Nat) (ln_ : Nat) (at_ : Nat) (iw_ : Bool) (f_ : Nat → Nat) (u_ : Nat → Nat) (hum : um_ ≤ 6) : zWv l yX8_records w_X8_records r_X8_records D cy [((bd 0), .inr (5, [.int (nI 0), .ref (bd 1), .ref (bd 2), .int (nI um_), .ref (bd 3), .ref (bd 4), .ref (bd 5), .int (nI ln_), .int (nI at_), .int (if iw_ = true then 1 else 0), .ref (bd 6), .ref (bd 7), .ref (bd 8), .ref (bd 9), .ref (bd 10), .ref (bd 11), .ref (bd 12), .ref (bd 13), .ref (bd 14)])), ((bd 1), .inl (cy 0, 130, .inl (nIf f_))), ((bd 2), .inl (cy 0, 780, .inl (nIf u_)))] sz [.ref (bd 0)] (fun u : (Nat → Nat) => (∀ z_, z_ < 130 → u (130 * (um_ - um_ / 6) + z_) = f_ z_) ∧ ∀ j_ z_, j_ < um_ - um_ / 6 → z_ < 130 → u (130 * j_ + z_) = u_ (130 * (j_ + um_ / 6) + z_)) (fun u : (Nat → Nat) => ([((bd 0), .inr (5, [.int (nI 0), .ref (bd 1), .ref (bd 2), .int (nI (um_ - um_ / 6 + 1)), .ref (bd 3), .ref (bd 4), .ref (bd 5), .int (nI ln_), .int (nI at_), .int (if iw_ = true then 1 else 0), .ref (bd 6), .ref (bd 7), .ref (bd 8), .ref (bd 9), .ref (bd 10), .ref (bd 11), .ref (bd 12), .ref (bd 13), .ref (bd 14)])), ((bd 1), .inl (cy 0, 130, .inl (nIf f_))), ((bd 2), .inl (cy 0, 780, .inl (nIf u)))] : va_W)) 0 0 := by
  refine zOfV (cc := cX8_records) (maxL := 2) (by decide) rfl (Nat.le_of_ble_eq_true rfl) ?_
  intro zp ze zs zm za zb zme zc hx hb hml hts hown hP hK zA hD hA Q kr ls hl hin
  have hS : va_S zA zs.heap zs.heap [] := va_S.rf
  have hown : zs.vm.findClass RX8 = some zm.cls := hown
  have hl : lv_has ls 2 [(0, .ref (bd 0))] := hl
  refine lv_aload_n hx hb dX8_records_0 rfl (lv_at hl 0 rfl) ?_
  refine va_get (D := D) (ci := 5) (v := .int (nI um_)) (C := RX8) (T := TX8) (N := 19) hx hb hts (fun w h => List.mem_cons_of_mem _ (zinX8 w h)) hown hK.1 hP 0 rfl rfl 3 (by decide) (hts _ (List.mem_cons_of_mem _ zw_128)) (fun _ h9 => h9) rfl dX8_records_1 ?_
  refine lv_bipush (v := nI 6) hx hb dX8_records_4 (by decide) ?_
  refine zb_ne (a := um_) (b := 6) (tgt := 50) hx hb dX8_records_6 (by decide) (by omega) (by omega) (fun c6 => ?_) (fun c6 => ?_)
  · skip
    refine lv_iconst (v := nI 0) hx hb dX8_records_50 (by decide) ?_
    refine lv_istore_n (lv' := [(1, .int (nI 0)), (0, .ref (bd 0))]) hx hb dX8_records_51 rfl hl (by decide) rfl (fun ls hl => ?_)
    have L52 : ∀ (kf_ : Nat) (i_ : Nat) (v_ : Nat) (w_ : Nat → Nat) (hi : i_ ≤ 130) (hv : v_ = um_ - um_ / 6) (hn_ : ∀ z_, z_ < i_ → w_ (130 * v_ + z_) = f_ z_) (ho_ : ∀ j_ z_, j_ < v_ → z_ < 130 → w_ (130 * j_ + z_) = u_ (130 * (j_ + um_ / 6) + z_)), 130 - i_ < kf_ → ∀ (H : Heap) (locs : List Loc), va_P D vwCl [((bd 0), .inr (5, [.int (nI 0), .ref (bd 1), .ref (bd 2), .int (nI v_), .ref (bd 3), .ref (bd 4), .ref (bd 5), .int (nI ln_), .int (nI at_), .int (if iw_ = true then 1 else 0), .ref (bd 6), .ref (bd 7), .ref (bd 8), .ref (bd 9), .ref (bd 10), .ref (bd 11), .ref (bd 12), .ref (bd 13), .ref (bd 14)])), ((bd 1), .inl (cy 0, 130, .inl (nIf f_))), ((bd 2), .inl (cy 0, 780, .inl (nIf w_)))] H → va_D zA [((bd 0), .inr (5, [.int (nI 0), .ref (bd 1), .ref (bd 2), .int (nI v_), .ref (bd 3), .ref (bd 4), .ref (bd 5), .int (nI ln_), .int (nI at_), .int (if iw_ = true then 1 else 0), .ref (bd 6), .ref (bd 7), .ref (bd 8), .ref (bd 9), .ref (bd 10), .ref (bd 11), .ref (bd 12), .ref (bd 13), .ref (bd 14)])), ((bd 1), .inl (cy 0, 130, .inl (nIf f_))), ((bd 2), .inl (cy 0, 780, .inl (nIf w_)))] → va_S zA zs.heap H locs → ∀ ls : Array Slot, lv_has ls 2 [(0, .ref (bd 0)), (1, .int (nI i_))] → W zp l ze r_X8_records zs zm za zb zme zc H locs 0 0 Q (F0 zm 52 ls []) := by
      intro kf_
      induction kf_ with
      | zero => intro i_ v_ w_ hi hv hn_ ho_ hk_; exact absurd hk_ (Nat.not_lt_zero _)
      | succ kf_ ih52 =>
        intro i_ v_ w_ hi hv hn_ ho_ hk_ H locs hP hD hS ls hl
        refine lv_iload_n hx hb dX8_records_52 rfl (lv_at hl 1 rfl) ?_
        refine lv_sipush (v := nI 130) hx hb dX8_records_53 (by decide) ?_
        refine zb_ge (a := i_) (b := 130) (tgt := 86) hx hb dX8_records_56 (by decide) (by omega) (by omega) (fun c56 => ?_) (fun c56 => ?_)
        · skip
          have hv2 : v_ ≤ 5 := by omega
          refine lv_aload_n hx hb dX8_records_86 rfl (lv_at hl 0 rfl) ?_
          refine lv_dup hx hb dX8_records_87 rfl ?_
          refine va_get (D := D) (ci := 5) (v := .int (nI v_)) (C := RX8) (T := TX8) (N := 19) hx hb hts (fun w h => List.mem_cons_of_mem _ (zinX8 w h)) hown hK.1 hP 0 rfl rfl 3 (by decide) (hts _ (List.mem_cons_of_mem _ zw_128)) (fun _ h9 => h9) rfl dX8_records_88 ?_
          refine lv_iconst (v := nI 1) hx hb dX8_records_91 (by decide) ?_
          refine zi_add (v := nI (v_ + 1)) hx hb dX8_records_92 (nI_add _ _) ?_
          refine va_put (D := D) (ci := 5) (v := .int (nI (v_ + 1))) (ty := .int) (C := RX8) (T := TX8) (N := 19) hx hb hts (fun w h => List.mem_cons_of_mem _ (zinX8 w h)) tyX8 tyX8_ok nmX8 hown hK.1 hP hD hS 0 rfl rfl 3 (by decide) (hts _ (List.mem_cons_of_mem _ zw_128)) (fun _ h9 => h9) rfl (tyX8_ok 3 (by decide)) rfl rfl (Nat.le_of_ble_eq_true rfl) dX8_records_93 (fun H locs hP hD hS => ?_)
          have hP : va_P D vwCl [((bd 0), .inr (5, [.int (nI 0), .ref (bd 1), .ref (bd 2), .int (nI (v_ + 1)), .ref (bd 3), .ref (bd 4), .ref (bd 5), .int (nI ln_), .int (nI at_), .int (if iw_ = true then 1 else 0), .ref (bd 6), .ref (bd 7), .ref (bd 8), .ref (bd 9), .ref (bd 10), .ref (bd 11), .ref (bd 12), .ref (bd 13), .ref (bd 14)])), ((bd 1), .inl (cy 0, 130, .inl (nIf f_))), ((bd 2), .inl (cy 0, 780, .inl (nIf w_)))] H := hP
          have hD : va_D zA [((bd 0), .inr (5, [.int (nI 0), .ref (bd 1), .ref (bd 2), .int (nI (v_ + 1)), .ref (bd 3), .ref (bd 4), .ref (bd 5), .int (nI ln_), .int (nI at_), .int (if iw_ = true then 1 else 0), .ref (bd 6), .ref (bd 7), .ref (bd 8), .ref (bd 9), .ref (bd 10), .ref (bd 11), .ref (bd 12), .ref (bd 13), .ref (bd 14)])), ((bd 1), .inl (cy 0, 130, .inl (nIf f_))), ((bd 2), .inl (cy 0, 780, .inl (nIf w_)))] := hD
          rw [hv] at hP hD
          exact kr w_ _ _ _ _ dX8_records_96 ⟨fun z_ hz_ => by rw [← hv]; exact hn_ z_ (by omega), fun j_ z_ hj_ hz_ => ho_ j_ z_ (by omega) hz_⟩ hP hD hS
        · skip
          refine lv_aload_n hx hb dX8_records_59 rfl (lv_at hl 0 rfl) ?_
          refine va_get (D := D) (ci := 5) (v := .ref (bd 2)) (C := RX8) (T := TX8) (N := 19) hx hb hts (fun w h => List.mem_cons_of_mem _ (zinX8 w h)) hown hK.1 hP 0 rfl rfl 2 (by decide) (hts _ (List.mem_cons_of_mem _ zw_75)) (fun _ h9 => h9) rfl dX8_records_60 ?_
          refine lv_sipush (v := nI 130) hx hb dX8_records_63 (by decide) ?_
          refine lv_aload_n hx hb dX8_records_66 rfl (lv_at hl 0 rfl) ?_
          refine va_get (D := D) (ci := 5) (v := .int (nI v_)) (C := RX8) (T := TX8) (N := 19) hx hb hts (fun w h => List.mem_cons_of_mem _ (zinX8 w h)) hown hK.1 hP 0 rfl rfl 3 (by decide) (hts _ (List.mem_cons_of_mem _ zw_128)) (fun _ h9 => h9) rfl dX8_records_67 ?_
          refine zi_mul (v := nI (130 * v_)) hx hb dX8_records_70 (pk_mul _ _) ?_
          refine lv_iload_n hx hb dX8_records_71 rfl (lv_at hl 1 rfl) ?_
          refine zi_add (v := nI ((130 * v_) + i_)) hx hb dX8_records_72 (nI_add _ _) ?_
          refine lv_aload_n hx hb dX8_records_73 rfl (lv_at hl 0 rfl) ?_
          refine va_get (D := D) (ci := 5) (v := .ref (bd 1)) (C := RX8) (T := TX8) (N := 19) hx hb hts (fun w h => List.mem_cons_of_mem _ (zinX8 w h)) hown hK.1 hP 0 rfl rfl 1 (by decide) (hts _ (List.mem_cons_of_mem _ zw_74)) (fun _ h9 => h9) rfl dX8_records_74 ?_
          refine lv_iload_n hx hb dX8_records_77 rfl (lv_at hl 1 rfl) ?_
          refine zi_iald (v := nI (f_ i_)) hx hb hK hP 1 rfl (by omega) (by omega) rfl dX8_records_78 ?_
          refine zi_iast hx hb hK hP hD hS 2 rfl (by omega) (by omega) dX8_records_79 (fun H locs hP hD hS => ?_)
          rw [upd_nIf] at hP hD
          have hP : va_P D vwCl [((bd 0), .inr (5, [.int (nI 0), .ref (bd 1), .ref (bd 2), .int (nI v_), .ref (bd 3), .ref (bd 4), .ref (bd 5), .int (nI ln_), .int (nI at_), .int (if iw_ = true then 1 else 0), .ref (bd 6), .ref (bd 7), .ref (bd 8), .ref (bd 9), .ref (bd 10), .ref (bd 11), .ref (bd 12), .ref (bd 13), .ref (bd 14)])), ((bd 1), .inl (cy 0, 130, .inl (nIf f_))), ((bd 2), .inl (cy 0, 780, .inl (nIf (uN1 w_ ((130 * v_) + i_) (f_ i_)))))] H := hP
          have hD : va_D zA [((bd 0), .inr (5, [.int (nI 0), .ref (bd 1), .ref (bd 2), .int (nI v_), .ref (bd 3), .ref (bd 4), .ref (bd 5), .int (nI ln_), .int (nI at_), .int (if iw_ = true then 1 else 0), .ref (bd 6), .ref (bd 7), .ref (bd 8), .ref (bd 9), .ref (bd 10), .ref (bd 11), .ref (bd 12), .ref (bd 13), .ref (bd 14)])), ((bd 1), .inl (cy 0, 130, .inl (nIf f_))), ((bd 2), .inl (cy 0, 780, .inl (nIf (uN1 w_ ((130 * v_) + i_) (f_ i_)))))] := hD
          refine lv_iinc (v := nI (i_ + 1)) (lv' := [(1, .int (nI (i_ + 1))), (0, .ref (bd 0))]) hx hb dX8_records_80 hl (k := 1) rfl (nI_1 _) (by decide) rfl (fun ls hl => ?_)
          refine lv_goto (tgt := 52) hx hb dX8_records_83 (by decide) ?_
          exact ih52 (i_ + 1) v_ (uN1 w_ ((130 * v_) + i_) (f_ i_)) (by omega) (by omega) (fun z_ hz_ => by by_cases q_ : z_ = i_; subst q_; exact uN1_s _ _ _; rw [uN1_n _ (by omega)]; exact hn_ z_ (by omega)) (fun j_ z_ hj_ hz_ => by rw [uN1_n _ (by omega)]; exact ho_ j_ z_ hj_ hz_) (by omega) _ _ hP hD hS _ (lv_sub hl [1, 0] rfl)
    exact L52 (130 - 0 + 1) 0 um_ u_ (Nat.zero_le _) (by omega) (fun z_ hz_ => absurd hz_ (Nat.not_lt_zero _)) (fun j_ z_ hj_ hz_ => congrArg u_ (by omega)) (Nat.lt_succ_self _) _ _ hP hD hS _ (lv_sub hl [1, 0] rfl)
  · skip
    refine lv_iconst (v := nI 0) hx hb dX8_records_9 (by decide) ?_
    refine lv_istore_n (lv' := [(1, .int (nI 0)), (0, .ref (bd 0))]) hx hb dX8_records_10 rfl hl (by decide) rfl (fun ls hl => ?_)
    have L11 : ∀ (kf_ : Nat) (i_ : Nat) (w_ : Nat → Nat) (hi : i_ ≤ 650) (hlo : ∀ z_, z_ < i_ → w_ z_ = u_ (z_ + 130)) (hup : ∀ z_, i_ ≤ z_ → w_ z_ = u_ z_), 650 - i_ < kf_ → ∀ (H : Heap) (locs : List Loc), va_P D vwCl [((bd 0), .inr (5, [.int (nI 0), .ref (bd 1), .ref (bd 2), .int (nI um_), .ref (bd 3), .ref (bd 4), .ref (bd 5), .int (nI ln_), .int (nI at_), .int (if iw_ = true then 1 else 0), .ref (bd 6), .ref (bd 7), .ref (bd 8), .ref (bd 9), .ref (bd 10), .ref (bd 11), .ref (bd 12), .ref (bd 13), .ref (bd 14)])), ((bd 1), .inl (cy 0, 130, .inl (nIf f_))), ((bd 2), .inl (cy 0, 780, .inl (nIf w_)))] H → va_D zA [((bd 0), .inr (5, [.int (nI 0), .ref (bd 1), .ref (bd 2), .int (nI um_), .ref (bd 3), .ref (bd 4), .ref (bd 5), .int (nI ln_), .int (nI at_), .int (if iw_ = true then 1 else 0), .ref (bd 6), .ref (bd 7), .ref (bd 8), .ref (bd 9), .ref (bd 10), .ref (bd 11), .ref (bd 12), .ref (bd 13), .ref (bd 14)])), ((bd 1), .inl (cy 0, 130, .inl (nIf f_))), ((bd 2), .inl (cy 0, 780, .inl (nIf w_)))] → va_S zA zs.heap H locs → ∀ ls : Array Slot, lv_has ls 2 [(0, .ref (bd 0)), (1, .int (nI i_))] → W zp l ze r_X8_records zs zm za zb zme zc H locs 0 0 Q (F0 zm 11 ls []) := by
      intro kf_
      induction kf_ with
      | zero => intro i_ w_ hi hlo hup hk_; exact absurd hk_ (Nat.not_lt_zero _)
      | succ kf_ ih11 =>
        intro i_ w_ hi hlo hup hk_ H locs hP hD hS ls hl
        refine lv_iload_n hx hb dX8_records_11 rfl (lv_at hl 1 rfl) ?_
        refine lv_sipush (v := nI 650) hx hb dX8_records_12 (by decide) ?_
        refine zb_ge (a := i_) (b := 650) (tgt := 40) hx hb dX8_records_15 (by decide) (by omega) (by omega) (fun c15 => ?_) (fun c15 => ?_)
        · skip
          refine lv_aload_n hx hb dX8_records_40 rfl (lv_at hl 0 rfl) ?_
          refine lv_dup hx hb dX8_records_41 rfl ?_
          refine va_get (D := D) (ci := 5) (v := .int (nI um_)) (C := RX8) (T := TX8) (N := 19) hx hb hts (fun w h => List.mem_cons_of_mem _ (zinX8 w h)) hown hK.1 hP 0 rfl rfl 3 (by decide) (hts _ (List.mem_cons_of_mem _ zw_128)) (fun _ h9 => h9) rfl dX8_records_42 ?_
          refine lv_iconst (v := nI 1) hx hb dX8_records_45 (by decide) ?_
          refine zi_sub (v := nI (um_ - 1)) hx hb dX8_records_46 (pk_sub (by omega)) ?_
          refine va_put (D := D) (ci := 5) (v := .int (nI (um_ - 1))) (ty := .int) (C := RX8) (T := TX8) (N := 19) hx hb hts (fun w h => List.mem_cons_of_mem _ (zinX8 w h)) tyX8 tyX8_ok nmX8 hown hK.1 hP hD hS 0 rfl rfl 3 (by decide) (hts _ (List.mem_cons_of_mem _ zw_128)) (fun _ h9 => h9) rfl (tyX8_ok 3 (by decide)) rfl rfl (Nat.le_of_ble_eq_true rfl) dX8_records_47 (fun H locs hP hD hS => ?_)
          have hP : va_P D vwCl [((bd 0), .inr (5, [.int (nI 0), .ref (bd 1), .ref (bd 2), .int (nI (um_ - 1)), .ref (bd 3), .ref (bd 4), .ref (bd 5), .int (nI ln_), .int (nI at_), .int (if iw_ = true then 1 else 0), .ref (bd 6), .ref (bd 7), .ref (bd 8), .ref (bd 9), .ref (bd 10), .ref (bd 11), .ref (bd 12), .ref (bd 13), .ref (bd 14)])), ((bd 1), .inl (cy 0, 130, .inl (nIf f_))), ((bd 2), .inl (cy 0, 780, .inl (nIf w_)))] H := hP
          have hD : va_D zA [((bd 0), .inr (5, [.int (nI 0), .ref (bd 1), .ref (bd 2), .int (nI (um_ - 1)), .ref (bd 3), .ref (bd 4), .ref (bd 5), .int (nI ln_), .int (nI at_), .int (if iw_ = true then 1 else 0), .ref (bd 6), .ref (bd 7), .ref (bd 8), .ref (bd 9), .ref (bd 10), .ref (bd 11), .ref (bd 12), .ref (bd 13), .ref (bd 14)])), ((bd 1), .inl (cy 0, 130, .inl (nIf f_))), ((bd 2), .inl (cy 0, 780, .inl (nIf w_)))] := hD
          refine lv_iconst (v := nI 0) hx hb dX8_records_50 (by decide) ?_
          refine lv_istore_n (lv' := [(1, .int (nI 0)), (0, .ref (bd 0))]) hx hb dX8_records_51 rfl hl (by decide) rfl (fun ls hl => ?_)
          have L52 : ∀ (kf_ : Nat) (i_ : Nat) (v_ : Nat) (w_ : Nat → Nat) (hi : i_ ≤ 130) (hv : v_ = um_ - um_ / 6) (hn_ : ∀ z_, z_ < i_ → w_ (130 * v_ + z_) = f_ z_) (ho_ : ∀ j_ z_, j_ < v_ → z_ < 130 → w_ (130 * j_ + z_) = u_ (130 * (j_ + um_ / 6) + z_)), 130 - i_ < kf_ → ∀ (H : Heap) (locs : List Loc), va_P D vwCl [((bd 0), .inr (5, [.int (nI 0), .ref (bd 1), .ref (bd 2), .int (nI v_), .ref (bd 3), .ref (bd 4), .ref (bd 5), .int (nI ln_), .int (nI at_), .int (if iw_ = true then 1 else 0), .ref (bd 6), .ref (bd 7), .ref (bd 8), .ref (bd 9), .ref (bd 10), .ref (bd 11), .ref (bd 12), .ref (bd 13), .ref (bd 14)])), ((bd 1), .inl (cy 0, 130, .inl (nIf f_))), ((bd 2), .inl (cy 0, 780, .inl (nIf w_)))] H → va_D zA [((bd 0), .inr (5, [.int (nI 0), .ref (bd 1), .ref (bd 2), .int (nI v_), .ref (bd 3), .ref (bd 4), .ref (bd 5), .int (nI ln_), .int (nI at_), .int (if iw_ = true then 1 else 0), .ref (bd 6), .ref (bd 7), .ref (bd 8), .ref (bd 9), .ref (bd 10), .ref (bd 11), .ref (bd 12), .ref (bd 13), .ref (bd 14)])), ((bd 1), .inl (cy 0, 130, .inl (nIf f_))), ((bd 2), .inl (cy 0, 780, .inl (nIf w_)))] → va_S zA zs.heap H locs → ∀ ls : Array Slot, lv_has ls 2 [(0, .ref (bd 0)), (1, .int (nI i_))] → W zp l ze r_X8_records zs zm za zb zme zc H locs 0 0 Q (F0 zm 52 ls []) := by
            intro kf_
            induction kf_ with
            | zero => intro i_ v_ w_ hi hv hn_ ho_ hk_; exact absurd hk_ (Nat.not_lt_zero _)
            | succ kf_ ih52 =>
              intro i_ v_ w_ hi hv hn_ ho_ hk_ H locs hP hD hS ls hl
              refine lv_iload_n hx hb dX8_records_52 rfl (lv_at hl 1 rfl) ?_
              refine lv_sipush (v := nI 130) hx hb dX8_records_53 (by decide) ?_
              refine zb_ge (a := i_) (b := 130) (tgt := 86) hx hb dX8_records_56 (by decide) (by omega) (by omega) (fun c56 => ?_) (fun c56 => ?_)
              · skip
                have hv2 : v_ ≤ 5 := by omega
                refine lv_aload_n hx hb dX8_records_86 rfl (lv_at hl 0 rfl) ?_
                refine lv_dup hx hb dX8_records_87 rfl ?_
                refine va_get (D := D) (ci := 5) (v := .int (nI v_)) (C := RX8) (T := TX8) (N := 19) hx hb hts (fun w h => List.mem_cons_of_mem _ (zinX8 w h)) hown hK.1 hP 0 rfl rfl 3 (by decide) (hts _ (List.mem_cons_of_mem _ zw_128)) (fun _ h9 => h9) rfl dX8_records_88 ?_
                refine lv_iconst (v := nI 1) hx hb dX8_records_91 (by decide) ?_
                refine zi_add (v := nI (v_ + 1)) hx hb dX8_records_92 (nI_add _ _) ?_
                refine va_put (D := D) (ci := 5) (v := .int (nI (v_ + 1))) (ty := .int) (C := RX8) (T := TX8) (N := 19) hx hb hts (fun w h => List.mem_cons_of_mem _ (zinX8 w h)) tyX8 tyX8_ok nmX8 hown hK.1 hP hD hS 0 rfl rfl 3 (by decide) (hts _ (List.mem_cons_of_mem _ zw_128)) (fun _ h9 => h9) rfl (tyX8_ok 3 (by decide)) rfl rfl (Nat.le_of_ble_eq_true rfl) dX8_records_93 (fun H locs hP hD hS => ?_)
                have hP : va_P D vwCl [((bd 0), .inr (5, [.int (nI 0), .ref (bd 1), .ref (bd 2), .int (nI (v_ + 1)), .ref (bd 3), .ref (bd 4), .ref (bd 5), .int (nI ln_), .int (nI at_), .int (if iw_ = true then 1 else 0), .ref (bd 6), .ref (bd 7), .ref (bd 8), .ref (bd 9), .ref (bd 10), .ref (bd 11), .ref (bd 12), .ref (bd 13), .ref (bd 14)])), ((bd 1), .inl (cy 0, 130, .inl (nIf f_))), ((bd 2), .inl (cy 0, 780, .inl (nIf w_)))] H := hP
                have hD : va_D zA [((bd 0), .inr (5, [.int (nI 0), .ref (bd 1), .ref (bd 2), .int (nI (v_ + 1)), .ref (bd 3), .ref (bd 4), .ref (bd 5), .int (nI ln_), .int (nI at_), .int (if iw_ = true then 1 else 0), .ref (bd 6), .ref (bd 7), .ref (bd 8), .ref (bd 9), .ref (bd 10), .ref (bd 11), .ref (bd 12), .ref (bd 13), .ref (bd 14)])), ((bd 1), .inl (cy 0, 130, .inl (nIf f_))), ((bd 2), .inl (cy 0, 780, .inl (nIf w_)))] := hD
                rw [hv] at hP hD
                exact kr w_ _ _ _ _ dX8_records_96 ⟨fun z_ hz_ => by rw [← hv]; exact hn_ z_ (by omega), fun j_ z_ hj_ hz_ => ho_ j_ z_ (by omega) hz_⟩ hP hD hS
              · skip
                refine lv_aload_n hx hb dX8_records_59 rfl (lv_at hl 0 rfl) ?_
                refine va_get (D := D) (ci := 5) (v := .ref (bd 2)) (C := RX8) (T := TX8) (N := 19) hx hb hts (fun w h => List.mem_cons_of_mem _ (zinX8 w h)) hown hK.1 hP 0 rfl rfl 2 (by decide) (hts _ (List.mem_cons_of_mem _ zw_75)) (fun _ h9 => h9) rfl dX8_records_60 ?_
                refine lv_sipush (v := nI 130) hx hb dX8_records_63 (by decide) ?_
                refine lv_aload_n hx hb dX8_records_66 rfl (lv_at hl 0 rfl) ?_
                refine va_get (D := D) (ci := 5) (v := .int (nI v_)) (C := RX8) (T := TX8) (N := 19) hx hb hts (fun w h => List.mem_cons_of_mem _ (zinX8 w h)) hown hK.1 hP 0 rfl rfl 3 (by decide) (hts _ (List.mem_cons_of_mem _ zw_128)) (fun _ h9 => h9) rfl dX8_records_67 ?_
                refine zi_mul (v := nI (130 * v_)) hx hb dX8_records_70 (pk_mul _ _) ?_
                refine lv_iload_n hx hb dX8_records_71 rfl (lv_at hl 1 rfl) ?_
                refine zi_add (v := nI ((130 * v_) + i_)) hx hb dX8_records_72 (nI_add _ _) ?_
                refine lv_aload_n hx hb dX8_records_73 rfl (lv_at hl 0 rfl) ?_
                refine va_get (D := D) (ci := 5) (v := .ref (bd 1)) (C := RX8) (T := TX8) (N := 19) hx hb hts (fun w h => List.mem_cons_of_mem _ (zinX8 w h)) hown hK.1 hP 0 rfl rfl 1 (by decide) (hts _ (List.mem_cons_of_mem _ zw_74)) (fun _ h9 => h9) rfl dX8_records_74 ?_
                refine lv_iload_n hx hb dX8_records_77 rfl (lv_at hl 1 rfl) ?_
                refine zi_iald (v := nI (f_ i_)) hx hb hK hP 1 rfl (by omega) (by omega) rfl dX8_records_78 ?_
                refine zi_iast hx hb hK hP hD hS 2 rfl (by omega) (by omega) dX8_records_79 (fun H locs hP hD hS => ?_)
                rw [upd_nIf] at hP hD
                have hP : va_P D vwCl [((bd 0), .inr (5, [.int (nI 0), .ref (bd 1), .ref (bd 2), .int (nI v_), .ref (bd 3), .ref (bd 4), .ref (bd 5), .int (nI ln_), .int (nI at_), .int (if iw_ = true then 1 else 0), .ref (bd 6), .ref (bd 7), .ref (bd 8), .ref (bd 9), .ref (bd 10), .ref (bd 11), .ref (bd 12), .ref (bd 13), .ref (bd 14)])), ((bd 1), .inl (cy 0, 130, .inl (nIf f_))), ((bd 2), .inl (cy 0, 780, .inl (nIf (uN1 w_ ((130 * v_) + i_) (f_ i_)))))] H := hP
                have hD : va_D zA [((bd 0), .inr (5, [.int (nI 0), .ref (bd 1), .ref (bd 2), .int (nI v_), .ref (bd 3), .ref (bd 4), .ref (bd 5), .int (nI ln_), .int (nI at_), .int (if iw_ = true then 1 else 0), .ref (bd 6), .ref (bd 7), .ref (bd 8), .ref (bd 9), .ref (bd 10), .ref (bd 11), .ref (bd 12), .ref (bd 13), .ref (bd 14)])), ((bd 1), .inl (cy 0, 130, .inl (nIf f_))), ((bd 2), .inl (cy 0, 780, .inl (nIf (uN1 w_ ((130 * v_) + i_) (f_ i_)))))] := hD
                refine lv_iinc (v := nI (i_ + 1)) (lv' := [(1, .int (nI (i_ + 1))), (0, .ref (bd 0))]) hx hb dX8_records_80 hl (k := 1) rfl (nI_1 _) (by decide) rfl (fun ls hl => ?_)
                refine lv_goto (tgt := 52) hx hb dX8_records_83 (by decide) ?_
                exact ih52 (i_ + 1) v_ (uN1 w_ ((130 * v_) + i_) (f_ i_)) (by omega) (by omega) (fun z_ hz_ => by by_cases q_ : z_ = i_; subst q_; exact uN1_s _ _ _; rw [uN1_n _ (by omega)]; exact hn_ z_ (by omega)) (fun j_ z_ hj_ hz_ => by rw [uN1_n _ (by omega)]; exact ho_ j_ z_ hj_ hz_) (by omega) _ _ hP hD hS _ (lv_sub hl [1, 0] rfl)
          exact L52 (130 - 0 + 1) 0 (um_ - 1) w_ (Nat.zero_le _) (by omega) (fun z_ hz_ => absurd hz_ (Nat.not_lt_zero _)) (fun j_ z_ hj_ hz_ => by rw [hlo _ (by omega)]; exact congrArg u_ (by omega)) (Nat.lt_succ_self _) _ _ hP hD hS _ (lv_sub hl [1, 0] rfl)
        · skip
          refine lv_aload_n hx hb dX8_records_18 rfl (lv_at hl 0 rfl) ?_
          refine va_get (D := D) (ci := 5) (v := .ref (bd 2)) (C := RX8) (T := TX8) (N := 19) hx hb hts (fun w h => List.mem_cons_of_mem _ (zinX8 w h)) hown hK.1 hP 0 rfl rfl 2 (by decide) (hts _ (List.mem_cons_of_mem _ zw_75)) (fun _ h9 => h9) rfl dX8_records_19 ?_
          refine lv_iload_n hx hb dX8_records_22 rfl (lv_at hl 1 rfl) ?_
          refine lv_aload_n hx hb dX8_records_23 rfl (lv_at hl 0 rfl) ?_
          refine va_get (D := D) (ci := 5) (v := .ref (bd 2)) (C := RX8) (T := TX8) (N := 19) hx hb hts (fun w h => List.mem_cons_of_mem _ (zinX8 w h)) hown hK.1 hP 0 rfl rfl 2 (by decide) (hts _ (List.mem_cons_of_mem _ zw_75)) (fun _ h9 => h9) rfl dX8_records_24 ?_
          refine lv_iload_n hx hb dX8_records_27 rfl (lv_at hl 1 rfl) ?_
          refine lv_sipush (v := nI 130) hx hb dX8_records_28 (by decide) ?_
          refine zi_add (v := nI (i_ + 130)) hx hb dX8_records_31 (nI_add _ _) ?_
          refine zi_iald (v := nI (w_ (i_ + 130))) hx hb hK hP 2 rfl (by omega) (by omega) rfl dX8_records_32 ?_
          refine zi_iast hx hb hK hP hD hS 2 rfl (by omega) (by omega) dX8_records_33 (fun H locs hP hD hS => ?_)
          rw [upd_nIf] at hP hD
          have hP : va_P D vwCl [((bd 0), .inr (5, [.int (nI 0), .ref (bd 1), .ref (bd 2), .int (nI um_), .ref (bd 3), .ref (bd 4), .ref (bd 5), .int (nI ln_), .int (nI at_), .int (if iw_ = true then 1 else 0), .ref (bd 6), .ref (bd 7), .ref (bd 8), .ref (bd 9), .ref (bd 10), .ref (bd 11), .ref (bd 12), .ref (bd 13), .ref (bd 14)])), ((bd 1), .inl (cy 0, 130, .inl (nIf f_))), ((bd 2), .inl (cy 0, 780, .inl (nIf (uN1 w_ i_ (w_ (i_ + 130))))))] H := hP
          have hD : va_D zA [((bd 0), .inr (5, [.int (nI 0), .ref (bd 1), .ref (bd 2), .int (nI um_), .ref (bd 3), .ref (bd 4), .ref (bd 5), .int (nI ln_), .int (nI at_), .int (if iw_ = true then 1 else 0), .ref (bd 6), .ref (bd 7), .ref (bd 8), .ref (bd 9), .ref (bd 10), .ref (bd 11), .ref (bd 12), .ref (bd 13), .ref (bd 14)])), ((bd 1), .inl (cy 0, 130, .inl (nIf f_))), ((bd 2), .inl (cy 0, 780, .inl (nIf (uN1 w_ i_ (w_ (i_ + 130))))))] := hD
          refine lv_iinc (v := nI (i_ + 1)) (lv' := [(1, .int (nI (i_ + 1))), (0, .ref (bd 0))]) hx hb dX8_records_34 hl (k := 1) rfl (nI_1 _) (by decide) rfl (fun ls hl => ?_)
          refine lv_goto (tgt := 11) hx hb dX8_records_37 (by decide) ?_
          exact ih11 (i_ + 1) (uN1 w_ i_ (w_ (i_ + 130))) (by omega) (fun z_ hz_ => by by_cases q_ : z_ = i_; subst q_; rw [uN1_s]; exact hup _ (by omega); rw [uN1_n _ q_]; exact hlo z_ (by omega)) (fun z_ hz_ => by rw [uN1_n _ (by omega)]; exact hup z_ (by omega)) (by omega) _ _ hP hD hS _ (lv_sub hl [1, 0] rfl)
    exact L11 (650 - 0 + 1) 0 u_ (Nat.zero_le _) (fun z_ hz_ => absurd hz_ (Nat.not_lt_zero _)) (fun z_ _ => rfl) (Nat.lt_succ_self _) _ _ hP hD hS _ (lv_sub hl [1, 0] rfl)
abbrev w_X8_cycles : List Cond := Cond.code yX8_cycles cX8_cycles 6 (some .int) :: zAll
abbrev r_X8_cycles : Room := { frames := 0, cells := 0, slots := 0, locals := 0 }
theorem zd_X8_cycles : yX8_cycles.cls = RX8 ∧ yX8_cycles.cls ≠ "java/lang/invoke/MethodHandle" ∧ yX8_cycles.cls ≠ "java/lang/invoke/VarHandle" ∧ (parseMethodDescriptor yX8_cycles.desc).map (fun d => d.parameters.length) = some 1 := by decide +kernel
set_option maxHeartbeats 4000000 in
set_option maxRecDepth 100000 in
theorem c_X8_cycles (l : Launch) (D : va_G) (cy : Nat → ClassId) (sz : Nat) (bd : Nat → Nat) (um_ : Nat) (ln_ : Nat) (at_ : Nat) (iw_ : Bool) (f_ : Nat → Nat) (ra_ : Nat) (rc_ : Nat → Nat) (x_ : Int64) (lc_ : Nat → Nat) (sb_ : Nat → Bool) (hN_ : f_ 0 ≤ 16) (hr_ : RowX (f_ 0) rc_ x_) (hwx : WF (f_ 0) x_) : zWi l yX8_cycles w_X8_cycles r_X8_cycles D cy [((bd 0), .inr (5, [.int (nI 0), .ref (bd 1), .ref (bd 2), .int (nI um_), .ref (bd 3), .ref (bd 4), .ref (bd 5), .int (nI ln_), .int (nI at_), .int (if iw_ = true then 1 else 0), .ref (bd 6), .ref (bd 7), .ref (bd 8), .ref (bd 9), .ref (bd 10), .ref (bd 11), .ref (bd 12), .ref (bd 13), .ref (bd 14)])), ((bd 1), .inl (cy 0, 130, .inl (nIf f_))), (ra_, .inl (cy 0, 16, .inl (nIf rc_))), ((bd 13), .inl (cy 2, 16, .inl (nBf sb_))), ((bd 14), .inl (cy 0, 17, .inl (nIf lc_)))] sz [.ref (bd 0), .ref ra_] (fun (r_ : Int32) (u : (Nat → Nat) × (Nat → Bool)) => r_ = (nI (howN x_ (f_ 0))) ∧ CntI x_ (f_ 0) u.1) (fun u : (Nat → Nat) × (Nat → Bool) => ([((bd 0), .inr (5, [.int (nI 0), .ref (bd 1), .ref (bd 2), .int (nI um_), .ref (bd 3), .ref (bd 4), .ref (bd 5), .int (nI ln_), .int (nI at_), .int (if iw_ = true then 1 else 0), .ref (bd 6), .ref (bd 7), .ref (bd 8), .ref (bd 9), .ref (bd 10), .ref (bd 11), .ref (bd 12), .ref (bd 13), .ref (bd 14)])), ((bd 1), .inl (cy 0, 130, .inl (nIf f_))), (ra_, .inl (cy 0, 16, .inl (nIf rc_))), ((bd 13), .inl (cy 2, 16, .inl (nBf u.2))), ((bd 14), .inl (cy 0, 17, .inl (nIf u.1)))] : va_W)) := by
  refine zOfW (cc := cX8_cycles) (maxL := 6) (ty := .int) (by decide) rfl (Nat.le_of_ble_eq_true rfl) ?_
  intro zp ze zs zm za zb zme zc hx hb hml hts hown hP hK zA hD hA Q kr ls hl
  have hS : va_S zA zs.heap zs.heap [] := va_S.rf
  have hown : zs.vm.findClass RX8 = some zm.cls := hown
  have hl : lv_has ls 6 [(0, .ref (bd 0)), (1, .ref ra_)] := hl
  refine lv_iconst (v := nI 0) hx hb dX8_cycles_0 (by decide) ?_
  refine zi_top (v := nI (howN x_ 0)) rfl ?_
  refine lv_istore_n (lv' := [(2, .int (nI (howN x_ 0))), (0, .ref (bd 0)), (1, .ref ra_)]) hx hb dX8_cycles_1 rfl hl (by decide) rfl (fun ls hl => ?_)
  refine lv_iconst (v := nI 0) hx hb dX8_cycles_2 (by decide) ?_
  refine lv_istore_n (lv' := [(3, .int (nI 0)), (2, .int (nI (howN x_ 0))), (0, .ref (bd 0)), (1, .ref ra_)]) hx hb dX8_cycles_3 rfl hl (by decide) rfl (fun ls hl => ?_)
  have L4 : ∀ (kf_ : Nat) (i_ : Nat) (w_ : Nat → Nat) (hi : i_ ≤ 17) (hz : ∀ q_, q_ < i_ → w_ q_ = 0), 17 - i_ < kf_ → ∀ (H : Heap) (locs : List Loc), va_P D vwCl [((bd 0), .inr (5, [.int (nI 0), .ref (bd 1), .ref (bd 2), .int (nI um_), .ref (bd 3), .ref (bd 4), .ref (bd 5), .int (nI ln_), .int (nI at_), .int (if iw_ = true then 1 else 0), .ref (bd 6), .ref (bd 7), .ref (bd 8), .ref (bd 9), .ref (bd 10), .ref (bd 11), .ref (bd 12), .ref (bd 13), .ref (bd 14)])), ((bd 1), .inl (cy 0, 130, .inl (nIf f_))), (ra_, .inl (cy 0, 16, .inl (nIf rc_))), ((bd 13), .inl (cy 2, 16, .inl (nBf sb_))), ((bd 14), .inl (cy 0, 17, .inl (nIf w_)))] H → va_D zA [((bd 0), .inr (5, [.int (nI 0), .ref (bd 1), .ref (bd 2), .int (nI um_), .ref (bd 3), .ref (bd 4), .ref (bd 5), .int (nI ln_), .int (nI at_), .int (if iw_ = true then 1 else 0), .ref (bd 6), .ref (bd 7), .ref (bd 8), .ref (bd 9), .ref (bd 10), .ref (bd 11), .ref (bd 12), .ref (bd 13), .ref (bd 14)])), ((bd 1), .inl (cy 0, 130, .inl (nIf f_))), (ra_, .inl (cy 0, 16, .inl (nIf rc_))), ((bd 13), .inl (cy 2, 16, .inl (nBf sb_))), ((bd 14), .inl (cy 0, 17, .inl (nIf w_)))] → va_S zA zs.heap H locs → ∀ ls : Array Slot, lv_has ls 6 [(0, .ref (bd 0)), (1, .ref ra_), (2, .int (nI (howN x_ 0))), (3, .int (nI i_))] → W zp l ze r_X8_cycles zs zm za zb zme zc H locs 0 0 Q (F0 zm 4 ls []) := by
    intro kf_
    induction kf_ with
    | zero => intro i_ w_ hi hz hk_; exact absurd hk_ (Nat.not_lt_zero _)
    | succ kf_ ih4 =>
      intro i_ w_ hi hz hk_ H locs hP hD hS ls hl
      refine lv_iload_n hx hb dX8_cycles_4 rfl (lv_at hl 3 rfl) ?_
      refine lv_bipush (v := nI 17) hx hb dX8_cycles_5 (by decide) ?_
      refine zb_ge (a := i_) (b := 17) (tgt := 23) hx hb dX8_cycles_7 (by decide) (by omega) (by omega) (fun c7 => ?_) (fun c7 => ?_)
      · skip
        refine lv_iconst (v := nI 0) hx hb dX8_cycles_23 (by decide) ?_
        refine lv_istore_n (lv' := [(3, .int (nI 0)), (0, .ref (bd 0)), (1, .ref ra_), (2, .int (nI (howN x_ 0)))]) hx hb dX8_cycles_24 rfl hl (by decide) rfl (fun ls hl => ?_)
        have L25 : ∀ (kf_ : Nat) (i_ : Nat) (s_ : Nat → Bool) (hi : i_ ≤ 16) (hs : ∀ q_, q_ < i_ → s_ q_ = false), 16 - i_ < kf_ → ∀ (H : Heap) (locs : List Loc), va_P D vwCl [((bd 0), .inr (5, [.int (nI 0), .ref (bd 1), .ref (bd 2), .int (nI um_), .ref (bd 3), .ref (bd 4), .ref (bd 5), .int (nI ln_), .int (nI at_), .int (if iw_ = true then 1 else 0), .ref (bd 6), .ref (bd 7), .ref (bd 8), .ref (bd 9), .ref (bd 10), .ref (bd 11), .ref (bd 12), .ref (bd 13), .ref (bd 14)])), ((bd 1), .inl (cy 0, 130, .inl (nIf f_))), (ra_, .inl (cy 0, 16, .inl (nIf rc_))), ((bd 13), .inl (cy 2, 16, .inl (nBf s_))), ((bd 14), .inl (cy 0, 17, .inl (nIf w_)))] H → va_D zA [((bd 0), .inr (5, [.int (nI 0), .ref (bd 1), .ref (bd 2), .int (nI um_), .ref (bd 3), .ref (bd 4), .ref (bd 5), .int (nI ln_), .int (nI at_), .int (if iw_ = true then 1 else 0), .ref (bd 6), .ref (bd 7), .ref (bd 8), .ref (bd 9), .ref (bd 10), .ref (bd 11), .ref (bd 12), .ref (bd 13), .ref (bd 14)])), ((bd 1), .inl (cy 0, 130, .inl (nIf f_))), (ra_, .inl (cy 0, 16, .inl (nIf rc_))), ((bd 13), .inl (cy 2, 16, .inl (nBf s_))), ((bd 14), .inl (cy 0, 17, .inl (nIf w_)))] → va_S zA zs.heap H locs → ∀ ls : Array Slot, lv_has ls 6 [(0, .ref (bd 0)), (1, .ref ra_), (2, .int (nI (howN x_ 0))), (3, .int (nI i_))] → W zp l ze r_X8_cycles zs zm za zb zme zc H locs 0 0 Q (F0 zm 25 ls []) := by
          intro kf_
          induction kf_ with
          | zero => intro i_ s_ hi hs hk_; exact absurd hk_ (Nat.not_lt_zero _)
          | succ kf_ ih25 =>
            intro i_ s_ hi hs hk_ H locs hP hD hS ls hl
            refine lv_iload_n hx hb dX8_cycles_25 rfl (lv_at hl 3 rfl) ?_
            refine lv_bipush (v := nI 16) hx hb dX8_cycles_26 (by decide) ?_
            refine zb_ge (a := i_) (b := 16) (tgt := 44) hx hb dX8_cycles_28 (by decide) (by omega) (by omega) (fun c28 => ?_) (fun c28 => ?_)
            · skip
              refine lv_iconst (v := nI 0) hx hb dX8_cycles_44 (by decide) ?_
              refine lv_istore_n (lv' := [(3, .int (nI 0)), (0, .ref (bd 0)), (1, .ref ra_), (2, .int (nI (howN x_ 0)))]) hx hb dX8_cycles_45 rfl hl (by decide) rfl (fun ls hl => ?_)
              have L46 : ∀ (kf_ : Nat) (i_ : Nat) (w_ : Nat → Nat) (s_ : Nat → Bool) (hi : i_ ≤ f_ 0) (hs : SeenP x_ i_ s_) (hc_ : CntI x_ i_ w_), f_ 0 - i_ < kf_ → ∀ (H : Heap) (locs : List Loc), va_P D vwCl [((bd 0), .inr (5, [.int (nI 0), .ref (bd 1), .ref (bd 2), .int (nI um_), .ref (bd 3), .ref (bd 4), .ref (bd 5), .int (nI ln_), .int (nI at_), .int (if iw_ = true then 1 else 0), .ref (bd 6), .ref (bd 7), .ref (bd 8), .ref (bd 9), .ref (bd 10), .ref (bd 11), .ref (bd 12), .ref (bd 13), .ref (bd 14)])), ((bd 1), .inl (cy 0, 130, .inl (nIf f_))), (ra_, .inl (cy 0, 16, .inl (nIf rc_))), ((bd 13), .inl (cy 2, 16, .inl (nBf s_))), ((bd 14), .inl (cy 0, 17, .inl (nIf w_)))] H → va_D zA [((bd 0), .inr (5, [.int (nI 0), .ref (bd 1), .ref (bd 2), .int (nI um_), .ref (bd 3), .ref (bd 4), .ref (bd 5), .int (nI ln_), .int (nI at_), .int (if iw_ = true then 1 else 0), .ref (bd 6), .ref (bd 7), .ref (bd 8), .ref (bd 9), .ref (bd 10), .ref (bd 11), .ref (bd 12), .ref (bd 13), .ref (bd 14)])), ((bd 1), .inl (cy 0, 130, .inl (nIf f_))), (ra_, .inl (cy 0, 16, .inl (nIf rc_))), ((bd 13), .inl (cy 2, 16, .inl (nBf s_))), ((bd 14), .inl (cy 0, 17, .inl (nIf w_)))] → va_S zA zs.heap H locs → ∀ ls : Array Slot, lv_has ls 6 [(0, .ref (bd 0)), (1, .ref ra_), (2, .int (nI (howN x_ i_))), (3, .int (nI i_))] → W zp l ze r_X8_cycles zs zm za zb zme zc H locs 0 0 Q (F0 zm 46 ls []) := by
                intro kf_
                induction kf_ with
                | zero => intro i_ w_ s_ hi hs hc_ hk_; exact absurd hk_ (Nat.not_lt_zero _)
                | succ kf_ ih46 =>
                  intro i_ w_ s_ hi hs hc_ hk_ H locs hP hD hS ls hl
                  refine lv_iload_n hx hb dX8_cycles_46 rfl (lv_at hl 3 rfl) ?_
                  refine lv_aload_n hx hb dX8_cycles_47 rfl (lv_at hl 0 rfl) ?_
                  refine va_get (D := D) (ci := 5) (v := .ref (bd 1)) (C := RX8) (T := TX8) (N := 19) hx hb hts (fun w h => List.mem_cons_of_mem _ (zinX8 w h)) hown hK.1 hP 0 rfl rfl 1 (by decide) (hts _ (List.mem_cons_of_mem _ zw_74)) (fun _ h9 => h9) rfl dX8_cycles_48 ?_
                  refine lv_iconst (v := nI 0) hx hb dX8_cycles_51 (by decide) ?_
                  refine zi_iald (v := nI (f_ 0)) hx hb hK hP 1 rfl (by omega) (by omega) rfl dX8_cycles_52 ?_
                  refine zb_ge (a := i_) (b := f_ 0) (tgt := 131) hx hb dX8_cycles_53 (by decide) (by omega) (by omega) (fun c53 => ?_) (fun c53 => ?_)
                  · skip
                    refine lv_iload_n hx hb dX8_cycles_131 rfl (lv_at hl 2 rfl) ?_
                    exact kr _ (w_, s_) _ _ _ _ dX8_cycles_132 (vp_nar_int _) ⟨by rw [show i_ = f_ 0 by omega], (show i_ = f_ 0 by omega) ▸ hc_⟩ hP hD hS
                  · skip
                    refine lv_iconst (v := nI 0) hx hb dX8_cycles_56 (by decide) ?_
                    refine lv_istore (lv' := [(4, .int (nI 0)), (0, .ref (bd 0)), (1, .ref ra_), (2, .int (nI (howN x_ i_))), (3, .int (nI i_))]) hx hb dX8_cycles_57 hl (by decide) rfl (fun ls hl => ?_)
                    refine lv_iload_n hx hb dX8_cycles_59 rfl (lv_at hl 4 rfl) ?_
                    refine zi_top (v := nI (it (nb x_) 0 i_)) (congrArg nI (it_z _ _)) ?_
                    refine lv_istore (lv' := [(5, .int (nI (it (nb x_) 0 i_))), (4, .int (nI 0)), (0, .ref (bd 0)), (1, .ref ra_), (2, .int (nI (howN x_ i_))), (3, .int (nI i_))]) hx hb dX8_cycles_60 hl (by decide) rfl (fun ls hl => ?_)
                    have L62 : ∀ (kf_ : Nat) (j_ : Nat) (b_ : Nat → Bool) (hj : j_ ≤ cl (nb x_) i_) (hb_ : ∀ q_, q_ < 16 → (b_ q_ = true ↔ s_ q_ = true ∨ ∃ t_, t_ < j_ ∧ it (nb x_) t_ i_ = q_)) (hj0 : 0 < j_ → ¬ s_ i_ = true), cl (nb x_) i_ - j_ < kf_ → ∀ (H : Heap) (locs : List Loc), va_P D vwCl [((bd 0), .inr (5, [.int (nI 0), .ref (bd 1), .ref (bd 2), .int (nI um_), .ref (bd 3), .ref (bd 4), .ref (bd 5), .int (nI ln_), .int (nI at_), .int (if iw_ = true then 1 else 0), .ref (bd 6), .ref (bd 7), .ref (bd 8), .ref (bd 9), .ref (bd 10), .ref (bd 11), .ref (bd 12), .ref (bd 13), .ref (bd 14)])), ((bd 1), .inl (cy 0, 130, .inl (nIf f_))), (ra_, .inl (cy 0, 16, .inl (nIf rc_))), ((bd 13), .inl (cy 2, 16, .inl (nBf b_))), ((bd 14), .inl (cy 0, 17, .inl (nIf w_)))] H → va_D zA [((bd 0), .inr (5, [.int (nI 0), .ref (bd 1), .ref (bd 2), .int (nI um_), .ref (bd 3), .ref (bd 4), .ref (bd 5), .int (nI ln_), .int (nI at_), .int (if iw_ = true then 1 else 0), .ref (bd 6), .ref (bd 7), .ref (bd 8), .ref (bd 9), .ref (bd 10), .ref (bd 11), .ref (bd 12), .ref (bd 13), .ref (bd 14)])), ((bd 1), .inl (cy 0, 130, .inl (nIf f_))), (ra_, .inl (cy 0, 16, .inl (nIf rc_))), ((bd 13), .inl (cy 2, 16, .inl (nBf b_))), ((bd 14), .inl (cy 0, 17, .inl (nIf w_)))] → va_S zA zs.heap H locs → ∀ ls : Array Slot, lv_has ls 6 [(0, .ref (bd 0)), (1, .ref ra_), (2, .int (nI (howN x_ i_))), (3, .int (nI i_)), (4, .int (nI j_)), (5, .int (nI (it (nb x_) j_ i_)))] → W zp l ze r_X8_cycles zs zm za zb zme zc H locs 0 0 Q (F0 zm 62 ls []) := by
                      intro kf_
                      induction kf_ with
                      | zero => intro j_ b_ hj hb_ hj0 hk_; exact absurd hk_ (Nat.not_lt_zero _)
                      | succ kf_ ih62 =>
                        intro j_ b_ hj hb_ hj0 hk_ H locs hP hD hS ls hl
                        have hi62 : it (nb x_) j_ i_ < f_ 0 := itn_lt hwx hN_ (by omega)
                        have hjc62 := cl_le (nb x_) i_
                        refine lv_aload_n hx hb dX8_cycles_62 rfl (lv_at hl 0 rfl) ?_
                        refine va_get (D := D) (ci := 5) (v := .ref (bd 13)) (C := RX8) (T := TX8) (N := 19) hx hb hts (fun w h => List.mem_cons_of_mem _ (zinX8 w h)) hown hK.1 hP 0 rfl rfl 17 (by decide) (hts _ (List.mem_cons_of_mem _ zw_86)) (fun _ h9 => h9) rfl dX8_cycles_63 ?_
                        refine lv_iload hx hb dX8_cycles_66 (lv_at hl 5 rfl) ?_
                        refine zi_zald (v := if b_ (it (nb x_) j_ i_) = true then 1 else 0) hx hb hK hP 3 rfl (by omega) (by omega) rfl dX8_cycles_68 ?_
                        refine zq_ne (tgt := 92) hx hb dX8_cycles_69 (by decide) (fun c69 => ?_) (fun c69 => ?_)
                        · skip
                          have he0 := cyc_end hwx.1 (by omega) hs hb_ c69 hj hj0
                          have hw92 : w_ j_ ≤ 16 := Nat.le_trans (Nat.le_of_eq (hc_ j_ (by omega))) (Nat.le_trans (cnt_le _ _ _) (by omega))
                          have hh92 := how_le x_ i_
                          refine lv_aload_n hx hb dX8_cycles_92 rfl (lv_at hl 0 rfl) ?_
                          refine va_get (D := D) (ci := 5) (v := .ref (bd 14)) (C := RX8) (T := TX8) (N := 19) hx hb hts (fun w h => List.mem_cons_of_mem _ (zinX8 w h)) hown hK.1 hP 0 rfl rfl 18 (by decide) (hts _ (List.mem_cons_of_mem _ zw_87)) (fun _ h9 => h9) rfl dX8_cycles_93 ?_
                          refine lv_iload hx hb dX8_cycles_96 (lv_at hl 4 rfl) ?_
                          refine lv_dup2_11 hx hb dX8_cycles_98 rfl rfl ?_
                          refine zi_iald (v := nI (w_ j_)) hx hb hK hP 4 rfl (by omega) (by omega) rfl dX8_cycles_99 ?_
                          refine lv_iload hx hb dX8_cycles_100 (lv_at hl 4 rfl) ?_
                          refine zb0_le (a := j_) (tgt := 109) hx hb dX8_cycles_102 (by decide) (by omega) (fun c102 => ?_) (fun c102 => ?_)
                          · skip
                            have he := he0.resolve_right (by omega)
                            have hcc : CntI x_ (i_ + 1) (uN1 w_ j_ (w_ j_ + 0)) := by rw [show uN1 w_ j_ (w_ j_ + 0) = w_ from uN1_id w_ j_]; exact cnt_yes he.2.2.2 hc_
                            refine lv_iconst (v := nI 0) hx hb dX8_cycles_109 (by decide) ?_
                            refine zi_add (v := nI ((w_ j_) + 0)) hx hb dX8_cycles_110 (nI_add _ _) ?_
                            refine zi_iast hx hb hK hP hD hS 4 rfl (by omega) (by omega) dX8_cycles_111 (fun H locs hP hD hS => ?_)
                            rw [upd_nIf] at hP hD
                            have hP : va_P D vwCl [((bd 0), .inr (5, [.int (nI 0), .ref (bd 1), .ref (bd 2), .int (nI um_), .ref (bd 3), .ref (bd 4), .ref (bd 5), .int (nI ln_), .int (nI at_), .int (if iw_ = true then 1 else 0), .ref (bd 6), .ref (bd 7), .ref (bd 8), .ref (bd 9), .ref (bd 10), .ref (bd 11), .ref (bd 12), .ref (bd 13), .ref (bd 14)])), ((bd 1), .inl (cy 0, 130, .inl (nIf f_))), (ra_, .inl (cy 0, 16, .inl (nIf rc_))), ((bd 13), .inl (cy 2, 16, .inl (nBf b_))), ((bd 14), .inl (cy 0, 17, .inl (nIf (uN1 w_ j_ ((w_ j_) + 0)))))] H := hP
                            have hD : va_D zA [((bd 0), .inr (5, [.int (nI 0), .ref (bd 1), .ref (bd 2), .int (nI um_), .ref (bd 3), .ref (bd 4), .ref (bd 5), .int (nI ln_), .int (nI at_), .int (if iw_ = true then 1 else 0), .ref (bd 6), .ref (bd 7), .ref (bd 8), .ref (bd 9), .ref (bd 10), .ref (bd 11), .ref (bd 12), .ref (bd 13), .ref (bd 14)])), ((bd 1), .inl (cy 0, 130, .inl (nIf f_))), (ra_, .inl (cy 0, 16, .inl (nIf rc_))), ((bd 13), .inl (cy 2, 16, .inl (nBf b_))), ((bd 14), .inl (cy 0, 17, .inl (nIf (uN1 w_ j_ ((w_ j_) + 0)))))] := hD
                            refine lv_iload_n hx hb dX8_cycles_112 rfl (lv_at hl 2 rfl) ?_
                            refine lv_iload hx hb dX8_cycles_113 (lv_at hl 4 rfl) ?_
                            refine zb0_le (a := j_) (tgt := 122) hx hb dX8_cycles_115 (by decide) (by omega) (fun c115 => ?_) (fun hd_ => absurd hd_ (by omega))
                            refine lv_iconst (v := nI 0) hx hb dX8_cycles_122 (by decide) ?_
                            refine zi_add (v := nI ((howN x_ i_) + 0)) hx hb dX8_cycles_123 (nI_add _ _) ?_
                            refine zi_top (v := nI (howN x_ (i_ + 1))) (congrArg nI (Eq.trans (Nat.add_zero _) (how_yes he.2.2.2).symm)) ?_
                            refine lv_istore_n (lv' := [(2, .int (nI (howN x_ (i_ + 1)))), (0, .ref (bd 0)), (1, .ref ra_), (3, .int (nI i_)), (4, .int (nI j_)), (5, .int (nI (it (nb x_) j_ i_)))]) hx hb dX8_cycles_124 rfl hl (by decide) rfl (fun ls hl => ?_)
                            refine lv_iinc (v := nI (i_ + 1)) (lv' := [(3, .int (nI (i_ + 1))), (2, .int (nI (howN x_ (i_ + 1)))), (0, .ref (bd 0)), (1, .ref ra_), (4, .int (nI j_)), (5, .int (nI (it (nb x_) j_ i_)))]) hx hb dX8_cycles_125 hl (k := 3) rfl (nI_1 _) (by decide) rfl (fun ls hl => ?_)
                            refine lv_goto (tgt := 46) hx hb dX8_cycles_128 (by decide) ?_
                            exact ih46 (i_ + 1) (uN1 w_ j_ ((w_ j_) + 0)) b_ (by omega) he.2.2.1 hcc (by omega) _ _ hP hD hS _ (lv_sub hl [2, 3, 1, 0] rfl)
                          · skip
                            have he := he0.resolve_left (by omega)
                            have hcc : CntI x_ (i_ + 1) (uN1 w_ j_ (w_ j_ + 1)) := by rw [he.1]; exact cnt_no he.2.2.2 hc_
                            refine lv_iconst (v := nI 1) hx hb dX8_cycles_105 (by decide) ?_
                            refine lv_goto (tgt := 110) hx hb dX8_cycles_106 (by decide) ?_
                            refine zi_add (v := nI ((w_ j_) + 1)) hx hb dX8_cycles_110 (nI_add _ _) ?_
                            refine zi_iast hx hb hK hP hD hS 4 rfl (by omega) (by omega) dX8_cycles_111 (fun H locs hP hD hS => ?_)
                            rw [upd_nIf] at hP hD
                            have hP : va_P D vwCl [((bd 0), .inr (5, [.int (nI 0), .ref (bd 1), .ref (bd 2), .int (nI um_), .ref (bd 3), .ref (bd 4), .ref (bd 5), .int (nI ln_), .int (nI at_), .int (if iw_ = true then 1 else 0), .ref (bd 6), .ref (bd 7), .ref (bd 8), .ref (bd 9), .ref (bd 10), .ref (bd 11), .ref (bd 12), .ref (bd 13), .ref (bd 14)])), ((bd 1), .inl (cy 0, 130, .inl (nIf f_))), (ra_, .inl (cy 0, 16, .inl (nIf rc_))), ((bd 13), .inl (cy 2, 16, .inl (nBf b_))), ((bd 14), .inl (cy 0, 17, .inl (nIf (uN1 w_ j_ ((w_ j_) + 1)))))] H := hP
                            have hD : va_D zA [((bd 0), .inr (5, [.int (nI 0), .ref (bd 1), .ref (bd 2), .int (nI um_), .ref (bd 3), .ref (bd 4), .ref (bd 5), .int (nI ln_), .int (nI at_), .int (if iw_ = true then 1 else 0), .ref (bd 6), .ref (bd 7), .ref (bd 8), .ref (bd 9), .ref (bd 10), .ref (bd 11), .ref (bd 12), .ref (bd 13), .ref (bd 14)])), ((bd 1), .inl (cy 0, 130, .inl (nIf f_))), (ra_, .inl (cy 0, 16, .inl (nIf rc_))), ((bd 13), .inl (cy 2, 16, .inl (nBf b_))), ((bd 14), .inl (cy 0, 17, .inl (nIf (uN1 w_ j_ ((w_ j_) + 1)))))] := hD
                            refine lv_iload_n hx hb dX8_cycles_112 rfl (lv_at hl 2 rfl) ?_
                            refine lv_iload hx hb dX8_cycles_113 (lv_at hl 4 rfl) ?_
                            refine zb0_le (a := j_) (tgt := 122) hx hb dX8_cycles_115 (by decide) (by omega) (fun hd_ => absurd hd_ (by omega)) (fun c115 => ?_)
                            refine lv_iconst (v := nI 1) hx hb dX8_cycles_118 (by decide) ?_
                            refine lv_goto (tgt := 123) hx hb dX8_cycles_119 (by decide) ?_
                            refine zi_add (v := nI ((howN x_ i_) + 1)) hx hb dX8_cycles_123 (nI_add _ _) ?_
                            refine zi_top (v := nI (howN x_ (i_ + 1))) (congrArg nI (how_no he.2.2.2).symm) ?_
                            refine lv_istore_n (lv' := [(2, .int (nI (howN x_ (i_ + 1)))), (0, .ref (bd 0)), (1, .ref ra_), (3, .int (nI i_)), (4, .int (nI j_)), (5, .int (nI (it (nb x_) j_ i_)))]) hx hb dX8_cycles_124 rfl hl (by decide) rfl (fun ls hl => ?_)
                            refine lv_iinc (v := nI (i_ + 1)) (lv' := [(3, .int (nI (i_ + 1))), (2, .int (nI (howN x_ (i_ + 1)))), (0, .ref (bd 0)), (1, .ref ra_), (4, .int (nI j_)), (5, .int (nI (it (nb x_) j_ i_)))]) hx hb dX8_cycles_125 hl (k := 3) rfl (nI_1 _) (by decide) rfl (fun ls hl => ?_)
                            refine lv_goto (tgt := 46) hx hb dX8_cycles_128 (by decide) ?_
                            exact ih46 (i_ + 1) (uN1 w_ j_ ((w_ j_) + 1)) b_ (by omega) he.2.2.1 hcc (by omega) _ _ hP hD hS _ (lv_sub hl [2, 3, 1, 0] rfl)
                        · skip
                          have hj69 := cyc_lt hwx.1 (by omega) hb_ c69 hj
                          refine lv_aload_n hx hb dX8_cycles_72 rfl (lv_at hl 0 rfl) ?_
                          refine va_get (D := D) (ci := 5) (v := .ref (bd 13)) (C := RX8) (T := TX8) (N := 19) hx hb hts (fun w h => List.mem_cons_of_mem _ (zinX8 w h)) hown hK.1 hP 0 rfl rfl 17 (by decide) (hts _ (List.mem_cons_of_mem _ zw_86)) (fun _ h9 => h9) rfl dX8_cycles_73 ?_
                          refine lv_iload hx hb dX8_cycles_76 (lv_at hl 5 rfl) ?_
                          refine lv_iconst (v := nI 1) hx hb dX8_cycles_78 (by decide) ?_
                          refine zi_zast hx hb hK hP hD hS 3 rfl (by omega) (by omega) rfl dX8_cycles_79 (fun H locs hP hD hS => ?_)
                          rw [upd_nB1] at hP hD
                          have hP : va_P D vwCl [((bd 0), .inr (5, [.int (nI 0), .ref (bd 1), .ref (bd 2), .int (nI um_), .ref (bd 3), .ref (bd 4), .ref (bd 5), .int (nI ln_), .int (nI at_), .int (if iw_ = true then 1 else 0), .ref (bd 6), .ref (bd 7), .ref (bd 8), .ref (bd 9), .ref (bd 10), .ref (bd 11), .ref (bd 12), .ref (bd 13), .ref (bd 14)])), ((bd 1), .inl (cy 0, 130, .inl (nIf f_))), (ra_, .inl (cy 0, 16, .inl (nIf rc_))), ((bd 13), .inl (cy 2, 16, .inl (nBf (uB1 b_ (it (nb x_) j_ i_) true)))), ((bd 14), .inl (cy 0, 17, .inl (nIf w_)))] H := hP
                          have hD : va_D zA [((bd 0), .inr (5, [.int (nI 0), .ref (bd 1), .ref (bd 2), .int (nI um_), .ref (bd 3), .ref (bd 4), .ref (bd 5), .int (nI ln_), .int (nI at_), .int (if iw_ = true then 1 else 0), .ref (bd 6), .ref (bd 7), .ref (bd 8), .ref (bd 9), .ref (bd 10), .ref (bd 11), .ref (bd 12), .ref (bd 13), .ref (bd 14)])), ((bd 1), .inl (cy 0, 130, .inl (nIf f_))), (ra_, .inl (cy 0, 16, .inl (nIf rc_))), ((bd 13), .inl (cy 2, 16, .inl (nBf (uB1 b_ (it (nb x_) j_ i_) true)))), ((bd 14), .inl (cy 0, 17, .inl (nIf w_)))] := hD
                          refine lv_iinc (v := nI (j_ + 1)) (lv' := [(4, .int (nI (j_ + 1))), (0, .ref (bd 0)), (1, .ref ra_), (2, .int (nI (howN x_ i_))), (3, .int (nI i_)), (5, .int (nI (it (nb x_) j_ i_)))]) hx hb dX8_cycles_80 hl (k := 4) rfl (nI_1 _) (by decide) rfl (fun ls hl => ?_)
                          refine lv_aload_n hx hb dX8_cycles_83 rfl (lv_at hl 2 rfl) ?_
                          refine lv_iload hx hb dX8_cycles_84 (lv_at hl 5 rfl) ?_
                          refine zi_iald (v := nI (it (nb x_) (j_ + 1) i_)) hx hb hK hP 2 rfl (by omega) (by omega) (by show nI (rc_ _) = _; rw [hr_ _ hi62, it_succ]) dX8_cycles_86 ?_
                          refine lv_istore (lv' := [(5, .int (nI (it (nb x_) (j_ + 1) i_))), (4, .int (nI (j_ + 1))), (0, .ref (bd 0)), (1, .ref ra_), (2, .int (nI (howN x_ i_))), (3, .int (nI i_))]) hx hb dX8_cycles_87 hl (by decide) rfl (fun ls hl => ?_)
                          refine lv_goto (tgt := 62) hx hb dX8_cycles_89 (by decide) ?_
                          exact ih62 (j_ + 1) (uB1 b_ (it (nb x_) j_ i_) true) hj69 (fun q_ hq_ => cyc_b (hb_ q_ hq_)) (fun _ => cyc_0 (by omega) hb_ hj0 c69) (by omega) _ _ hP hD hS _ (lv_sub hl [2, 3, 4, 5, 1, 0] rfl)
                    exact L62 (cl (nb x_) i_ - 0 + 1) 0 s_ (Nat.zero_le _) (fun q_ _ => ⟨fun h_ => Or.inl h_, fun h_ => h_.elim id (fun ⟨t_, ht_, _⟩ => absurd ht_ (Nat.not_lt_zero _))⟩) (fun h_ => absurd h_ (Nat.not_lt_zero _)) (Nat.lt_succ_self _) _ _ hP hD hS _ (lv_sub hl [2, 3, 4, 5, 1, 0] rfl)
              exact L46 (f_ 0 - 0 + 1) 0 w_ s_ (Nat.zero_le _) (seen_0 x_ (fun q_ hq_ => hs q_ (by omega))) (cnt_0 x_ (fun q_ hq_ => hz q_ (by omega))) (Nat.lt_succ_self _) _ _ hP hD hS _ (lv_sub hl [1, 2, 3, 0] rfl)
            · skip
              refine lv_aload_n hx hb dX8_cycles_31 rfl (lv_at hl 0 rfl) ?_
              refine va_get (D := D) (ci := 5) (v := .ref (bd 13)) (C := RX8) (T := TX8) (N := 19) hx hb hts (fun w h => List.mem_cons_of_mem _ (zinX8 w h)) hown hK.1 hP 0 rfl rfl 17 (by decide) (hts _ (List.mem_cons_of_mem _ zw_86)) (fun _ h9 => h9) rfl dX8_cycles_32 ?_
              refine lv_iload_n hx hb dX8_cycles_35 rfl (lv_at hl 3 rfl) ?_
              refine lv_iconst (v := nI 0) hx hb dX8_cycles_36 (by decide) ?_
              refine zi_zast hx hb hK hP hD hS 3 rfl (by omega) (by omega) rfl dX8_cycles_37 (fun H locs hP hD hS => ?_)
              rw [upd_nB0] at hP hD
              have hP : va_P D vwCl [((bd 0), .inr (5, [.int (nI 0), .ref (bd 1), .ref (bd 2), .int (nI um_), .ref (bd 3), .ref (bd 4), .ref (bd 5), .int (nI ln_), .int (nI at_), .int (if iw_ = true then 1 else 0), .ref (bd 6), .ref (bd 7), .ref (bd 8), .ref (bd 9), .ref (bd 10), .ref (bd 11), .ref (bd 12), .ref (bd 13), .ref (bd 14)])), ((bd 1), .inl (cy 0, 130, .inl (nIf f_))), (ra_, .inl (cy 0, 16, .inl (nIf rc_))), ((bd 13), .inl (cy 2, 16, .inl (nBf (uB1 s_ i_ false)))), ((bd 14), .inl (cy 0, 17, .inl (nIf w_)))] H := hP
              have hD : va_D zA [((bd 0), .inr (5, [.int (nI 0), .ref (bd 1), .ref (bd 2), .int (nI um_), .ref (bd 3), .ref (bd 4), .ref (bd 5), .int (nI ln_), .int (nI at_), .int (if iw_ = true then 1 else 0), .ref (bd 6), .ref (bd 7), .ref (bd 8), .ref (bd 9), .ref (bd 10), .ref (bd 11), .ref (bd 12), .ref (bd 13), .ref (bd 14)])), ((bd 1), .inl (cy 0, 130, .inl (nIf f_))), (ra_, .inl (cy 0, 16, .inl (nIf rc_))), ((bd 13), .inl (cy 2, 16, .inl (nBf (uB1 s_ i_ false)))), ((bd 14), .inl (cy 0, 17, .inl (nIf w_)))] := hD
              refine lv_iinc (v := nI (i_ + 1)) (lv' := [(3, .int (nI (i_ + 1))), (0, .ref (bd 0)), (1, .ref ra_), (2, .int (nI (howN x_ 0)))]) hx hb dX8_cycles_38 hl (k := 3) rfl (nI_1 _) (by decide) rfl (fun ls hl => ?_)
              refine lv_goto (tgt := 25) hx hb dX8_cycles_41 (by decide) ?_
              exact ih25 (i_ + 1) (uB1 s_ i_ false) (by omega) (fun q_ hq_ => by unfold uB1; split; rfl; exact hs q_ (by omega)) (by omega) _ _ hP hD hS _ (lv_sub hl [1, 2, 3, 0] rfl)
        exact L25 (16 - 0 + 1) 0 sb_ (Nat.zero_le _) (fun q_ hq_ => absurd hq_ (Nat.not_lt_zero _)) (Nat.lt_succ_self _) _ _ hP hD hS _ (lv_sub hl [1, 2, 3, 0] rfl)
      · skip
        refine lv_aload_n hx hb dX8_cycles_10 rfl (lv_at hl 0 rfl) ?_
        refine va_get (D := D) (ci := 5) (v := .ref (bd 14)) (C := RX8) (T := TX8) (N := 19) hx hb hts (fun w h => List.mem_cons_of_mem _ (zinX8 w h)) hown hK.1 hP 0 rfl rfl 18 (by decide) (hts _ (List.mem_cons_of_mem _ zw_87)) (fun _ h9 => h9) rfl dX8_cycles_11 ?_
        refine lv_iload_n hx hb dX8_cycles_14 rfl (lv_at hl 3 rfl) ?_
        refine lv_iconst (v := nI 0) hx hb dX8_cycles_15 (by decide) ?_
        refine zi_iast hx hb hK hP hD hS 4 rfl (by omega) (by omega) dX8_cycles_16 (fun H locs hP hD hS => ?_)
        rw [upd_nIf] at hP hD
        have hP : va_P D vwCl [((bd 0), .inr (5, [.int (nI 0), .ref (bd 1), .ref (bd 2), .int (nI um_), .ref (bd 3), .ref (bd 4), .ref (bd 5), .int (nI ln_), .int (nI at_), .int (if iw_ = true then 1 else 0), .ref (bd 6), .ref (bd 7), .ref (bd 8), .ref (bd 9), .ref (bd 10), .ref (bd 11), .ref (bd 12), .ref (bd 13), .ref (bd 14)])), ((bd 1), .inl (cy 0, 130, .inl (nIf f_))), (ra_, .inl (cy 0, 16, .inl (nIf rc_))), ((bd 13), .inl (cy 2, 16, .inl (nBf sb_))), ((bd 14), .inl (cy 0, 17, .inl (nIf (uN1 w_ i_ 0))))] H := hP
        have hD : va_D zA [((bd 0), .inr (5, [.int (nI 0), .ref (bd 1), .ref (bd 2), .int (nI um_), .ref (bd 3), .ref (bd 4), .ref (bd 5), .int (nI ln_), .int (nI at_), .int (if iw_ = true then 1 else 0), .ref (bd 6), .ref (bd 7), .ref (bd 8), .ref (bd 9), .ref (bd 10), .ref (bd 11), .ref (bd 12), .ref (bd 13), .ref (bd 14)])), ((bd 1), .inl (cy 0, 130, .inl (nIf f_))), (ra_, .inl (cy 0, 16, .inl (nIf rc_))), ((bd 13), .inl (cy 2, 16, .inl (nBf sb_))), ((bd 14), .inl (cy 0, 17, .inl (nIf (uN1 w_ i_ 0))))] := hD
        refine lv_iinc (v := nI (i_ + 1)) (lv' := [(3, .int (nI (i_ + 1))), (0, .ref (bd 0)), (1, .ref ra_), (2, .int (nI (howN x_ 0)))]) hx hb dX8_cycles_17 hl (k := 3) rfl (nI_1 _) (by decide) rfl (fun ls hl => ?_)
        refine lv_goto (tgt := 4) hx hb dX8_cycles_20 (by decide) ?_
        exact ih4 (i_ + 1) (uN1 w_ i_ 0) (by omega) (fun q_ hq_ => by unfold uN1; split; rfl; exact hz q_ (by omega)) (by omega) _ _ hP hD hS _ (lv_sub hl [1, 2, 3, 0] rfl)
  exact L4 (17 - 0 + 1) 0 lc_ (Nat.zero_le _) (fun q_ hq_ => absurd hq_ (Nat.not_lt_zero _)) (Nat.lt_succ_self _) _ _ hP hD hS _ (lv_sub hl [2, 3, 1, 0] rfl)
abbrev w_X8_common : List Cond := Cond.code yX8_common cX8_common 5 (some .int) :: zAll
abbrev r_X8_common : Room := { frames := 0, cells := 0, slots := 0, locals := 0 }
theorem zd_X8_common : yX8_common.cls ≠ "java/lang/invoke/MethodHandle" ∧ yX8_common.cls ≠ "java/lang/invoke/VarHandle" ∧ (parseMethodDescriptor yX8_common.desc).map (fun d => d.parameters.length) = some 2 := by decide +kernel
set_option maxHeartbeats 4000000 in
set_option maxRecDepth 100000 in
theorem c_X8_common (l : Launch) (D : va_G) (cy : Nat → ClassId) (a_ : Nat) (b_ : Nat) (ha : a_ < 2 ^ 31) (hb_ : b_ < 2 ^ 31) : zMi l yX8_common w_X8_common r_X8_common D cy [] [.int (nI a_), .int (nI b_)] (fun r_ => r_ = (nI (Nat.gcd a_ b_))) := by
  refine zOfR (cc := cX8_common) (maxL := 5) (ty := .int) (by decide) rfl (Nat.le_of_ble_eq_true rfl) ?_
  intro zp ze zs zm za zb zme zc hx hb hml hts hown hP hK Q kr ls hl
  have hown : zs.vm.findClass RX8 = some zm.cls := hown
  have hl : lv_has ls 5 [(0, .int (nI a_)), (1, .int (nI b_))] := hl
  refine lv_iload_n hx hb dX8_common_0 rfl (lv_at hl 0 rfl) ?_
  refine lv_istore_n (lv' := [(2, .int (nI a_)), (0, .int (nI a_)), (1, .int (nI b_))]) hx hb dX8_common_1 rfl hl (by decide) rfl (fun ls hl => ?_)
  refine lv_iload_n hx hb dX8_common_2 rfl (lv_at hl 2 rfl) ?_
  refine lv_istore_n (lv' := [(3, .int (nI b_)), (2, .int (nI a_)), (0, .int (nI a_)), (1, .int (nI b_))]) hx hb dX8_common_3 rfl hl (by decide) rfl (fun ls hl => ?_)
  have L4 : ∀ (kf_ : Nat) (c_ : Nat) (d_ : Nat) (hc_ : c_ < 2 ^ 31) (hd_ : d_ < 2 ^ 31) (hg : Nat.gcd c_ d_ = Nat.gcd a_ b_), d_ < kf_ → ∀ ls : Array Slot, lv_has ls 5 [(0, .int (nI a_)), (1, .int (nI b_)), (2, .int (nI c_)), (3, .int (nI d_))] → W zp l ze r_X8_common zs zm za zb zme zc zs.heap [] 0 0 Q (F0 zm 4 ls []) := by
    intro kf_
    induction kf_ with
    | zero => intro c_ d_ hc_ hd_ hg hk_; exact absurd hk_ (Nat.not_lt_zero _)
    | succ kf_ ih4 =>
      intro c_ d_ hc_ hd_ hg hk_ ls hl
      refine lv_iload_n hx hb dX8_common_4 rfl (lv_at hl 3 rfl) ?_
      refine zb0_le (a := d_) (tgt := 21) hx hb dX8_common_5 (by decide) (by omega) (fun c5 => ?_) (fun c5 => ?_)
      · skip
        have e_ : nI c_ = nI (Nat.gcd a_ b_) := (congrArg nI (by rw [← hg, show d_ = 0 by omega, Nat.gcd_zero_right]))
        rw [e_] at hl
        refine lv_iload_n hx hb dX8_common_21 rfl (lv_at hl 2 rfl) ?_
        exact kr _ _ _ dX8_common_22 (vp_nar_int _) rfl
      · skip
        have hm8 : c_ % d_ < d_ := Nat.mod_lt _ c5
        refine lv_iload_n hx hb dX8_common_8 rfl (lv_at hl 2 rfl) ?_
        refine lv_iload_n hx hb dX8_common_9 rfl (lv_at hl 3 rfl) ?_
        refine zi_rem (v := nI (c_ % d_)) hx hb dX8_common_10 (nI_ne0 (by omega) (by omega)) (pk_rem (by omega) (by omega) (by omega)) ?_
        refine lv_istore (lv' := [(4, .int (nI (c_ % d_))), (0, .int (nI a_)), (1, .int (nI b_)), (2, .int (nI c_)), (3, .int (nI d_))]) hx hb dX8_common_11 hl (by decide) rfl (fun ls hl => ?_)
        refine lv_iload_n hx hb dX8_common_13 rfl (lv_at hl 4 rfl) ?_
        refine lv_istore_n (lv' := [(2, .int (nI d_)), (4, .int (nI (c_ % d_))), (0, .int (nI a_)), (1, .int (nI b_)), (3, .int (nI d_))]) hx hb dX8_common_14 rfl hl (by decide) rfl (fun ls hl => ?_)
        refine lv_iload hx hb dX8_common_15 (lv_at hl 1 rfl) ?_
        refine lv_istore_n (lv' := [(3, .int (nI (c_ % d_))), (2, .int (nI d_)), (4, .int (nI (c_ % d_))), (0, .int (nI a_)), (1, .int (nI b_))]) hx hb dX8_common_17 rfl hl (by decide) rfl (fun ls hl => ?_)
        refine lv_goto (tgt := 4) hx hb dX8_common_18 (by decide) ?_
        exact ih4 d_ (c_ % d_) (by omega) (by omega) (gcd_s hg) (by omega) _ (lv_sub hl [3, 4, 1, 0] rfl)
  exact L4 (b_ + 1) a_ b_ (by omega) (by omega) rfl (Nat.lt_succ_self _) _ (lv_sub hl [2, 3, 1, 0] rfl)
abbrev w_X8_order : List Cond := Cond.code yX8_order cX8_order 4 (some .int) :: zAll
abbrev r_X8_order : Room := { frames := 1, cells := 0, slots := 0, locals := 25 }
theorem zd_X8_order : yX8_order.cls = RX8 ∧ yX8_order.cls ≠ "java/lang/invoke/MethodHandle" ∧ yX8_order.cls ≠ "java/lang/invoke/VarHandle" ∧ (parseMethodDescriptor yX8_order.desc).map (fun d => d.parameters.length) = some 1 := by decide +kernel
set_option maxHeartbeats 4000000 in
set_option maxRecDepth 100000 in
theorem c_X8_order (l : Launch) (D : va_G) (cy : Nat → ClassId) (sz : Nat) (bd : Nat → Nat) (um_ : Nat) (ln_ : Nat) (at_ : Nat) (iw_ : Bool) (f_ : Nat → Nat) (ra_ : Nat) (rc_ : Nat → Nat) (x_ : Int64) (lc_ : Nat → Nat) (sb_ : Nat → Bool) (hN_ : f_ 0 ≤ 16) (hr_ : RowX (f_ 0) rc_ x_) (hwx : WF (f_ 0) x_) : zWi l yX8_order w_X8_order r_X8_order D cy [((bd 0), .inr (5, [.int (nI 0), .ref (bd 1), .ref (bd 2), .int (nI um_), .ref (bd 3), .ref (bd 4), .ref (bd 5), .int (nI ln_), .int (nI at_), .int (if iw_ = true then 1 else 0), .ref (bd 6), .ref (bd 7), .ref (bd 8), .ref (bd 9), .ref (bd 10), .ref (bd 11), .ref (bd 12), .ref (bd 13), .ref (bd 14)])), ((bd 1), .inl (cy 0, 130, .inl (nIf f_))), (ra_, .inl (cy 0, 16, .inl (nIf rc_))), ((bd 13), .inl (cy 2, 16, .inl (nBf sb_))), ((bd 14), .inl (cy 0, 17, .inl (nIf lc_)))] sz [.ref (bd 0), .ref ra_] (fun (r_ : Int32) (u : (Nat → Nat) × (Nat → Bool)) => r_ = (nI (ordF (cnt x_ (f_ 0)) 17)) ∧ True) (fun u : (Nat → Nat) × (Nat → Bool) => ([((bd 0), .inr (5, [.int (nI 0), .ref (bd 1), .ref (bd 2), .int (nI um_), .ref (bd 3), .ref (bd 4), .ref (bd 5), .int (nI ln_), .int (nI at_), .int (if iw_ = true then 1 else 0), .ref (bd 6), .ref (bd 7), .ref (bd 8), .ref (bd 9), .ref (bd 10), .ref (bd 11), .ref (bd 12), .ref (bd 13), .ref (bd 14)])), ((bd 1), .inl (cy 0, 130, .inl (nIf f_))), (ra_, .inl (cy 0, 16, .inl (nIf rc_))), ((bd 13), .inl (cy 2, 16, .inl (nBf u.2))), ((bd 14), .inl (cy 0, 17, .inl (nIf u.1)))] : va_W)) := by
  refine zOfW (cc := cX8_order) (maxL := 4) (ty := .int) (by decide) rfl (Nat.le_of_ble_eq_true rfl) ?_
  intro zp ze zs zm za zb zme zc hx hb hml hts hown hP hK zA hD hA Q kr ls hl
  have hS : va_S zA zs.heap zs.heap [] := va_S.rf
  have hown : zs.vm.findClass RX8 = some zm.cls := hown
  have hl : lv_has ls 4 [(0, .ref (bd 0)), (1, .ref ra_)] := hl
  refine lv_aload_n hx hb dX8_order_0 rfl (lv_at hl 0 rfl) ?_
  refine lv_aload_n hx hb dX8_order_1 rfl (lv_at hl 1 rfl) ?_
  refine zcWi (As := [.ref ra_]) (rest := []) (wr := []) ⟨hx, hb, hml, hown, hts⟩ (c_X8_cycles l D cy zs.heap.size bd um_ ln_ at_ iw_ f_ ra_ rc_ x_ lc_ sb_ (by omega) (by omega) (by omega)) (cwV 1 hts (zG_V zw_502 zw_503 zw_504 zw_5 zw_505) rfl rfl rfl zd_X8_cycles ⟨Nat.le_of_ble_eq_true rfl, Nat.le_of_ble_eq_true rfl⟩) hK hP hD hS hA [0, 1, 2, 3, 4] [] [0, 1, 2, 3, 4] rfl (by decide) rfl (by decide) (by decide) (w2 := (fun u_ : (Nat → Nat) × (Nat → Bool) => ([((bd 0), .inr (5, [.int (nI 0), .ref (bd 1), .ref (bd 2), .int (nI um_), .ref (bd 3), .ref (bd 4), .ref (bd 5), .int (nI ln_), .int (nI at_), .int (if iw_ = true then 1 else 0), .ref (bd 6), .ref (bd 7), .ref (bd 8), .ref (bd 9), .ref (bd 10), .ref (bd 11), .ref (bd 12), .ref (bd 13), .ref (bd 14)])), ((bd 1), .inl (cy 0, 130, .inl (nIf f_))), (ra_, .inl (cy 0, 16, .inl (nIf rc_))), ((bd 13), .inl (cy 2, 16, .inl (nBf u_.2))), ((bd 14), .inl (cy 0, 17, .inl (nIf u_.1)))] : va_W))) (fun _ => rfl) (by decide) rfl rfl rfl rfl hl.1 rfl (Nat.le_of_ble_eq_true rfl) dX8_order_2 ⟨Nat.zero_le _, Nat.zero_le _⟩ (fun r2 u2 H locs h2 hP hD hS => ?_)
  obtain ⟨w_2, b_2⟩ := u2
  obtain ⟨hr2, h2⟩ := h2
  have hr2 : r2 = nI (howN x_ (f_ 0)) := hr2
  have h2 : CntI x_ (f_ 0) w_2 := h2
  subst hr2
  have hP : va_P D vwCl [((bd 0), .inr (5, [.int (nI 0), .ref (bd 1), .ref (bd 2), .int (nI um_), .ref (bd 3), .ref (bd 4), .ref (bd 5), .int (nI ln_), .int (nI at_), .int (if iw_ = true then 1 else 0), .ref (bd 6), .ref (bd 7), .ref (bd 8), .ref (bd 9), .ref (bd 10), .ref (bd 11), .ref (bd 12), .ref (bd 13), .ref (bd 14)])), ((bd 1), .inl (cy 0, 130, .inl (nIf f_))), (ra_, .inl (cy 0, 16, .inl (nIf rc_))), ((bd 13), .inl (cy 2, 16, .inl (nBf b_2))), ((bd 14), .inl (cy 0, 17, .inl (nIf w_2)))] H := hP
  have hD : va_D zA [((bd 0), .inr (5, [.int (nI 0), .ref (bd 1), .ref (bd 2), .int (nI um_), .ref (bd 3), .ref (bd 4), .ref (bd 5), .int (nI ln_), .int (nI at_), .int (if iw_ = true then 1 else 0), .ref (bd 6), .ref (bd 7), .ref (bd 8), .ref (bd 9), .ref (bd 10), .ref (bd 11), .ref (bd 12), .ref (bd 13), .ref (bd 14)])), ((bd 1), .inl (cy 0, 130, .inl (nIf f_))), (ra_, .inl (cy 0, 16, .inl (nIf rc_))), ((bd 13), .inl (cy 2, 16, .inl (nBf b_2))), ((bd 14), .inl (cy 0, 17, .inl (nIf w_2)))] := hD
  refine lv_pop hx hb dX8_order_5 rfl ?_
  refine lv_iconst (v := nI 1) hx hb dX8_order_6 (by decide) ?_
  refine zi_top (v := nI (ordF w_2 1)) rfl ?_
  refine lv_istore_n (lv' := [(2, .int (nI (ordF w_2 1))), (0, .ref (bd 0)), (1, .ref ra_)]) hx hb dX8_order_7 rfl hl (by decide) rfl (fun ls hl => ?_)
  refine lv_iconst (v := nI 1) hx hb dX8_order_8 (by decide) ?_
  refine lv_istore_n (lv' := [(3, .int (nI 1)), (2, .int (nI (ordF w_2 1))), (0, .ref (bd 0)), (1, .ref ra_)]) hx hb dX8_order_9 rfl hl (by decide) rfl (fun ls hl => ?_)
  have L10 : ∀ (kf_ : Nat) (i_ : Nat) (h0 : 0 < i_) (hi : i_ ≤ 17), 17 - i_ < kf_ → ∀ (H : Heap) (locs : List Loc), va_P D vwCl [((bd 0), .inr (5, [.int (nI 0), .ref (bd 1), .ref (bd 2), .int (nI um_), .ref (bd 3), .ref (bd 4), .ref (bd 5), .int (nI ln_), .int (nI at_), .int (if iw_ = true then 1 else 0), .ref (bd 6), .ref (bd 7), .ref (bd 8), .ref (bd 9), .ref (bd 10), .ref (bd 11), .ref (bd 12), .ref (bd 13), .ref (bd 14)])), ((bd 1), .inl (cy 0, 130, .inl (nIf f_))), (ra_, .inl (cy 0, 16, .inl (nIf rc_))), ((bd 13), .inl (cy 2, 16, .inl (nBf b_2))), ((bd 14), .inl (cy 0, 17, .inl (nIf w_2)))] H → va_D zA [((bd 0), .inr (5, [.int (nI 0), .ref (bd 1), .ref (bd 2), .int (nI um_), .ref (bd 3), .ref (bd 4), .ref (bd 5), .int (nI ln_), .int (nI at_), .int (if iw_ = true then 1 else 0), .ref (bd 6), .ref (bd 7), .ref (bd 8), .ref (bd 9), .ref (bd 10), .ref (bd 11), .ref (bd 12), .ref (bd 13), .ref (bd 14)])), ((bd 1), .inl (cy 0, 130, .inl (nIf f_))), (ra_, .inl (cy 0, 16, .inl (nIf rc_))), ((bd 13), .inl (cy 2, 16, .inl (nBf b_2))), ((bd 14), .inl (cy 0, 17, .inl (nIf w_2)))] → va_S zA zs.heap H locs → ∀ ls : Array Slot, lv_has ls 4 [(0, .ref (bd 0)), (1, .ref ra_), (2, .int (nI (ordF w_2 i_))), (3, .int (nI i_))] → W zp l ze r_X8_order zs zm za zb zme zc H locs 0 0 Q (F0 zm 10 ls []) := by
    intro kf_
    induction kf_ with
    | zero => intro i_ h0 hi hk_; exact absurd hk_ (Nat.not_lt_zero _)
    | succ kf_ ih10 =>
      intro i_ h0 hi hk_ H locs hP hD hS ls hl
      refine lv_iload_n hx hb dX8_order_10 rfl (lv_at hl 3 rfl) ?_
      refine lv_bipush (v := nI 17) hx hb dX8_order_11 (by decide) ?_
      refine zb_ge (a := i_) (b := 17) (tgt := 45) hx hb dX8_order_13 (by decide) (by omega) (by omega) (fun c13 => ?_) (fun c13 => ?_)
      · skip
        refine lv_iload_n hx hb dX8_order_45 rfl (lv_at hl 2 rfl) ?_
        exact kr _ (w_2, b_2) _ _ _ _ dX8_order_46 (vp_nar_int _) ⟨congrArg nI (by rw [show i_ = 17 by omega]; exact ordF_congr h2), trivial⟩ hP hD hS
      · skip
        refine lv_aload_n hx hb dX8_order_16 rfl (lv_at hl 0 rfl) ?_
        refine va_get (D := D) (ci := 5) (v := .ref (bd 14)) (C := RX8) (T := TX8) (N := 19) hx hb hts (fun w h => List.mem_cons_of_mem _ (zinX8 w h)) hown hK.1 hP 0 rfl rfl 18 (by decide) (hts _ (List.mem_cons_of_mem _ zw_87)) (fun _ h9 => h9) rfl dX8_order_17 ?_
        refine lv_iload_n hx hb dX8_order_20 rfl (lv_at hl 3 rfl) ?_
        refine zi_iald (v := nI (w_2 i_)) hx hb hK hP 4 rfl (by omega) (by omega) rfl dX8_order_21 ?_
        have hb22 := Nat.le_trans (Nat.le_of_eq (h2 i_ (by omega))) (cnt_le x_ (f_ 0) i_)
        have ho22 := ordF_le w_2 hi
        have hp22 := ordF_pos w_2 hi
        refine zb0_ne (a := w_2 i_) (tgt := 29) hx hb dX8_order_22 (by decide) (by omega) (fun c22 => ?_) (fun c22 => ?_)
        · skip
          refine lv_iload_n hx hb dX8_order_29 rfl (lv_at hl 2 rfl) ?_
          refine lv_iload_n hx hb dX8_order_30 rfl (lv_at hl 2 rfl) ?_
          refine lv_iload_n hx hb dX8_order_31 rfl (lv_at hl 3 rfl) ?_
          refine zcSi (As := [.int (nI (ordF w_2 i_)), .int (nI i_)]) (rest := [.int (nI (ordF w_2 i_))]) ⟨hx, hb, hml, hown, hts⟩ (c_X8_common l D cy (ordF w_2 i_) i_ (by omega) (by omega)) (va_cwS 2 hts (zG_S zw_506 zw_507 zw_5 zw_508) rfl rfl rfl zd_X8_common ⟨Nat.le_of_ble_eq_true rfl, Nat.le_of_ble_eq_true rfl⟩) hK hP [] rfl rfl hl.1 rfl (Nat.le_of_ble_eq_true rfl) dX8_order_32 ⟨Nat.zero_le _, Nat.zero_le _⟩ (fun r32 h32 => ?_)
          subst h32
          have hg35 := Nat.gcd_pos_of_pos_left i_ hp22
          have hg36 := Nat.gcd_le_left i_ hp22
          refine zi_div (v := nI ((ordF w_2 i_) / (Nat.gcd (ordF w_2 i_) i_))) hx hb dX8_order_35 (nI_ne0 (by omega) (by omega)) (pk_div (by omega) (by omega) (by omega)) ?_
          refine lv_iload_n hx hb dX8_order_36 rfl (lv_at hl 3 rfl) ?_
          refine zi_mul (v := nI (((ordF w_2 i_) / (Nat.gcd (ordF w_2 i_) i_)) * i_)) hx hb dX8_order_37 (pk_mul _ _) ?_
          refine zi_top (v := nI (ordF w_2 (i_ + 1))) (congrArg nI ((lcm_E _ _).trans (ordF_yes h0 (by omega)).symm)) ?_
          refine lv_istore_n (lv' := [(2, .int (nI (ordF w_2 (i_ + 1)))), (0, .ref (bd 0)), (1, .ref ra_), (3, .int (nI i_))]) hx hb dX8_order_38 rfl hl (by decide) rfl (fun ls hl => ?_)
          refine lv_iinc (v := nI (i_ + 1)) (lv' := [(3, .int (nI (i_ + 1))), (2, .int (nI (ordF w_2 (i_ + 1)))), (0, .ref (bd 0)), (1, .ref ra_)]) hx hb dX8_order_39 hl (k := 3) rfl (nI_1 _) (by decide) rfl (fun ls hl => ?_)
          refine lv_goto (tgt := 10) hx hb dX8_order_42 (by decide) ?_
          exact ih10 (i_ + 1) (by omega) (by omega) (by omega) _ _ hP hD hS _ (lv_sub hl [2, 3, 1, 0] rfl)
        · skip
          refine lv_iload_n hx hb dX8_order_25 rfl (lv_at hl 2 rfl) ?_
          refine lv_goto (tgt := 38) hx hb dX8_order_26 (by decide) ?_
          refine zi_top (v := nI (ordF w_2 (i_ + 1))) (congrArg nI (ordF_no (by omega)).symm) ?_
          refine lv_istore_n (lv' := [(2, .int (nI (ordF w_2 (i_ + 1)))), (0, .ref (bd 0)), (1, .ref ra_), (3, .int (nI i_))]) hx hb dX8_order_38 rfl hl (by decide) rfl (fun ls hl => ?_)
          refine lv_iinc (v := nI (i_ + 1)) (lv' := [(3, .int (nI (i_ + 1))), (2, .int (nI (ordF w_2 (i_ + 1)))), (0, .ref (bd 0)), (1, .ref ra_)]) hx hb dX8_order_39 hl (k := 3) rfl (nI_1 _) (by decide) rfl (fun ls hl => ?_)
          refine lv_goto (tgt := 10) hx hb dX8_order_42 (by decide) ?_
          exact ih10 (i_ + 1) (by omega) (by omega) (by omega) _ _ hP hD hS _ (lv_sub hl [2, 3, 1, 0] rfl)
  exact L10 (17 - 1 + 1) 1 (by omega) (by omega) (Nat.lt_succ_self _) _ _ hP hD hS _ (lv_sub hl [2, 3, 1, 0] rfl)
abbrev w_X8_longest : List Cond := Cond.code yX8_longest cX8_longest 4 (some .int) :: zAll
abbrev r_X8_longest : Room := { frames := 1, cells := 0, slots := 0, locals := 25 }
theorem zd_X8_longest : yX8_longest.cls = RX8 ∧ yX8_longest.cls ≠ "java/lang/invoke/MethodHandle" ∧ yX8_longest.cls ≠ "java/lang/invoke/VarHandle" ∧ (parseMethodDescriptor yX8_longest.desc).map (fun d => d.parameters.length) = some 1 := by decide +kernel
set_option maxHeartbeats 4000000 in
set_option maxRecDepth 100000 in
theorem c_X8_longest (l : Launch) (D : va_G) (cy : Nat → ClassId) (sz : Nat) (bd : Nat → Nat) (um_ : Nat) (ln_ : Nat) (at_ : Nat) (iw_ : Bool) (f_ : Nat → Nat) (ra_ : Nat) (rc_ : Nat → Nat) (x_ : Int64) (lc_ : Nat → Nat) (sb_ : Nat → Bool) (hN_ : f_ 0 ≤ 16) (hr_ : RowX (f_ 0) rc_ x_) (hwx : WF (f_ 0) x_) : zWi l yX8_longest w_X8_longest r_X8_longest D cy [((bd 0), .inr (5, [.int (nI 0), .ref (bd 1), .ref (bd 2), .int (nI um_), .ref (bd 3), .ref (bd 4), .ref (bd 5), .int (nI ln_), .int (nI at_), .int (if iw_ = true then 1 else 0), .ref (bd 6), .ref (bd 7), .ref (bd 8), .ref (bd 9), .ref (bd 10), .ref (bd 11), .ref (bd 12), .ref (bd 13), .ref (bd 14)])), ((bd 1), .inl (cy 0, 130, .inl (nIf f_))), (ra_, .inl (cy 0, 16, .inl (nIf rc_))), ((bd 13), .inl (cy 2, 16, .inl (nBf sb_))), ((bd 14), .inl (cy 0, 17, .inl (nIf lc_)))] sz [.ref (bd 0), .ref ra_] (fun (r_ : Int32) (u : (Nat → Nat) × (Nat → Bool)) => r_ = (nI (lgst (cnt x_ (f_ 0)) 17)) ∧ True) (fun u : (Nat → Nat) × (Nat → Bool) => ([((bd 0), .inr (5, [.int (nI 0), .ref (bd 1), .ref (bd 2), .int (nI um_), .ref (bd 3), .ref (bd 4), .ref (bd 5), .int (nI ln_), .int (nI at_), .int (if iw_ = true then 1 else 0), .ref (bd 6), .ref (bd 7), .ref (bd 8), .ref (bd 9), .ref (bd 10), .ref (bd 11), .ref (bd 12), .ref (bd 13), .ref (bd 14)])), ((bd 1), .inl (cy 0, 130, .inl (nIf f_))), (ra_, .inl (cy 0, 16, .inl (nIf rc_))), ((bd 13), .inl (cy 2, 16, .inl (nBf u.2))), ((bd 14), .inl (cy 0, 17, .inl (nIf u.1)))] : va_W)) := by
  refine zOfW (cc := cX8_longest) (maxL := 4) (ty := .int) (by decide) rfl (Nat.le_of_ble_eq_true rfl) ?_
  intro zp ze zs zm za zb zme zc hx hb hml hts hown hP hK zA hD hA Q kr ls hl
  have hS : va_S zA zs.heap zs.heap [] := va_S.rf
  have hown : zs.vm.findClass RX8 = some zm.cls := hown
  have hl : lv_has ls 4 [(0, .ref (bd 0)), (1, .ref ra_)] := hl
  refine lv_aload_n hx hb dX8_longest_0 rfl (lv_at hl 0 rfl) ?_
  refine lv_aload_n hx hb dX8_longest_1 rfl (lv_at hl 1 rfl) ?_
  refine zcWi (As := [.ref ra_]) (rest := []) (wr := []) ⟨hx, hb, hml, hown, hts⟩ (c_X8_cycles l D cy zs.heap.size bd um_ ln_ at_ iw_ f_ ra_ rc_ x_ lc_ sb_ (by omega) (by omega) (by omega)) (cwV 1 hts (zG_V zw_502 zw_503 zw_504 zw_5 zw_505) rfl rfl rfl zd_X8_cycles ⟨Nat.le_of_ble_eq_true rfl, Nat.le_of_ble_eq_true rfl⟩) hK hP hD hS hA [0, 1, 2, 3, 4] [] [0, 1, 2, 3, 4] rfl (by decide) rfl (by decide) (by decide) (w2 := (fun u_ : (Nat → Nat) × (Nat → Bool) => ([((bd 0), .inr (5, [.int (nI 0), .ref (bd 1), .ref (bd 2), .int (nI um_), .ref (bd 3), .ref (bd 4), .ref (bd 5), .int (nI ln_), .int (nI at_), .int (if iw_ = true then 1 else 0), .ref (bd 6), .ref (bd 7), .ref (bd 8), .ref (bd 9), .ref (bd 10), .ref (bd 11), .ref (bd 12), .ref (bd 13), .ref (bd 14)])), ((bd 1), .inl (cy 0, 130, .inl (nIf f_))), (ra_, .inl (cy 0, 16, .inl (nIf rc_))), ((bd 13), .inl (cy 2, 16, .inl (nBf u_.2))), ((bd 14), .inl (cy 0, 17, .inl (nIf u_.1)))] : va_W))) (fun _ => rfl) (by decide) rfl rfl rfl rfl hl.1 rfl (Nat.le_of_ble_eq_true rfl) dX8_longest_2 ⟨Nat.zero_le _, Nat.zero_le _⟩ (fun r2 u2 H locs h2 hP hD hS => ?_)
  obtain ⟨w_2, b_2⟩ := u2
  obtain ⟨hr2, h2⟩ := h2
  have hr2 : r2 = nI (howN x_ (f_ 0)) := hr2
  have h2 : CntI x_ (f_ 0) w_2 := h2
  subst hr2
  have hP : va_P D vwCl [((bd 0), .inr (5, [.int (nI 0), .ref (bd 1), .ref (bd 2), .int (nI um_), .ref (bd 3), .ref (bd 4), .ref (bd 5), .int (nI ln_), .int (nI at_), .int (if iw_ = true then 1 else 0), .ref (bd 6), .ref (bd 7), .ref (bd 8), .ref (bd 9), .ref (bd 10), .ref (bd 11), .ref (bd 12), .ref (bd 13), .ref (bd 14)])), ((bd 1), .inl (cy 0, 130, .inl (nIf f_))), (ra_, .inl (cy 0, 16, .inl (nIf rc_))), ((bd 13), .inl (cy 2, 16, .inl (nBf b_2))), ((bd 14), .inl (cy 0, 17, .inl (nIf w_2)))] H := hP
  have hD : va_D zA [((bd 0), .inr (5, [.int (nI 0), .ref (bd 1), .ref (bd 2), .int (nI um_), .ref (bd 3), .ref (bd 4), .ref (bd 5), .int (nI ln_), .int (nI at_), .int (if iw_ = true then 1 else 0), .ref (bd 6), .ref (bd 7), .ref (bd 8), .ref (bd 9), .ref (bd 10), .ref (bd 11), .ref (bd 12), .ref (bd 13), .ref (bd 14)])), ((bd 1), .inl (cy 0, 130, .inl (nIf f_))), (ra_, .inl (cy 0, 16, .inl (nIf rc_))), ((bd 13), .inl (cy 2, 16, .inl (nBf b_2))), ((bd 14), .inl (cy 0, 17, .inl (nIf w_2)))] := hD
  refine lv_pop hx hb dX8_longest_5 rfl ?_
  refine lv_iconst (v := nI 0) hx hb dX8_longest_6 (by decide) ?_
  refine zi_top (v := nI (lgst w_2 1)) rfl ?_
  refine lv_istore_n (lv' := [(2, .int (nI (lgst w_2 1))), (0, .ref (bd 0)), (1, .ref ra_)]) hx hb dX8_longest_7 rfl hl (by decide) rfl (fun ls hl => ?_)
  refine lv_iconst (v := nI 1) hx hb dX8_longest_8 (by decide) ?_
  refine lv_istore_n (lv' := [(3, .int (nI 1)), (2, .int (nI (lgst w_2 1))), (0, .ref (bd 0)), (1, .ref ra_)]) hx hb dX8_longest_9 rfl hl (by decide) rfl (fun ls hl => ?_)
  have L10 : ∀ (kf_ : Nat) (i_ : Nat) (h0 : 0 < i_) (hi : i_ ≤ 17), 17 - i_ < kf_ → ∀ (H : Heap) (locs : List Loc), va_P D vwCl [((bd 0), .inr (5, [.int (nI 0), .ref (bd 1), .ref (bd 2), .int (nI um_), .ref (bd 3), .ref (bd 4), .ref (bd 5), .int (nI ln_), .int (nI at_), .int (if iw_ = true then 1 else 0), .ref (bd 6), .ref (bd 7), .ref (bd 8), .ref (bd 9), .ref (bd 10), .ref (bd 11), .ref (bd 12), .ref (bd 13), .ref (bd 14)])), ((bd 1), .inl (cy 0, 130, .inl (nIf f_))), (ra_, .inl (cy 0, 16, .inl (nIf rc_))), ((bd 13), .inl (cy 2, 16, .inl (nBf b_2))), ((bd 14), .inl (cy 0, 17, .inl (nIf w_2)))] H → va_D zA [((bd 0), .inr (5, [.int (nI 0), .ref (bd 1), .ref (bd 2), .int (nI um_), .ref (bd 3), .ref (bd 4), .ref (bd 5), .int (nI ln_), .int (nI at_), .int (if iw_ = true then 1 else 0), .ref (bd 6), .ref (bd 7), .ref (bd 8), .ref (bd 9), .ref (bd 10), .ref (bd 11), .ref (bd 12), .ref (bd 13), .ref (bd 14)])), ((bd 1), .inl (cy 0, 130, .inl (nIf f_))), (ra_, .inl (cy 0, 16, .inl (nIf rc_))), ((bd 13), .inl (cy 2, 16, .inl (nBf b_2))), ((bd 14), .inl (cy 0, 17, .inl (nIf w_2)))] → va_S zA zs.heap H locs → ∀ ls : Array Slot, lv_has ls 4 [(0, .ref (bd 0)), (1, .ref ra_), (2, .int (nI (lgst w_2 i_))), (3, .int (nI i_))] → W zp l ze r_X8_longest zs zm za zb zme zc H locs 0 0 Q (F0 zm 10 ls []) := by
    intro kf_
    induction kf_ with
    | zero => intro i_ h0 hi hk_; exact absurd hk_ (Nat.not_lt_zero _)
    | succ kf_ ih10 =>
      intro i_ h0 hi hk_ H locs hP hD hS ls hl
      refine lv_iload_n hx hb dX8_longest_10 rfl (lv_at hl 3 rfl) ?_
      refine lv_bipush (v := nI 17) hx hb dX8_longest_11 (by decide) ?_
      refine zb_ge (a := i_) (b := 17) (tgt := 37) hx hb dX8_longest_13 (by decide) (by omega) (by omega) (fun c13 => ?_) (fun c13 => ?_)
      · skip
        refine lv_iload_n hx hb dX8_longest_37 rfl (lv_at hl 2 rfl) ?_
        exact kr _ (w_2, b_2) _ _ _ _ dX8_longest_38 (vp_nar_int _) ⟨congrArg nI (by rw [show i_ = 17 by omega]; exact lgst_congr h2), trivial⟩ hP hD hS
      · skip
        refine lv_aload_n hx hb dX8_longest_16 rfl (lv_at hl 0 rfl) ?_
        refine va_get (D := D) (ci := 5) (v := .ref (bd 14)) (C := RX8) (T := TX8) (N := 19) hx hb hts (fun w h => List.mem_cons_of_mem _ (zinX8 w h)) hown hK.1 hP 0 rfl rfl 18 (by decide) (hts _ (List.mem_cons_of_mem _ zw_87)) (fun _ h9 => h9) rfl dX8_longest_17 ?_
        refine lv_iload_n hx hb dX8_longest_20 rfl (lv_at hl 3 rfl) ?_
        refine zi_iald (v := nI (w_2 i_)) hx hb hK hP 4 rfl (by omega) (by omega) rfl dX8_longest_21 ?_
        have hb22 := Nat.le_trans (Nat.le_of_eq (h2 i_ (by omega))) (cnt_le x_ (f_ 0) i_)
        refine zb0_le (a := w_2 i_) (tgt := 29) hx hb dX8_longest_22 (by decide) (by omega) (fun c22 => ?_) (fun c22 => ?_)
        · skip
          refine lv_iload_n hx hb dX8_longest_29 rfl (lv_at hl 2 rfl) ?_
          refine zi_top (v := nI (lgst w_2 (i_ + 1))) (congrArg nI (lgst_no (by omega)).symm) ?_
          refine lv_istore_n (lv' := [(2, .int (nI (lgst w_2 (i_ + 1)))), (0, .ref (bd 0)), (1, .ref ra_), (3, .int (nI i_))]) hx hb dX8_longest_30 rfl hl (by decide) rfl (fun ls hl => ?_)
          refine lv_iinc (v := nI (i_ + 1)) (lv' := [(3, .int (nI (i_ + 1))), (2, .int (nI (lgst w_2 (i_ + 1)))), (0, .ref (bd 0)), (1, .ref ra_)]) hx hb dX8_longest_31 hl (k := 3) rfl (nI_1 _) (by decide) rfl (fun ls hl => ?_)
          refine lv_goto (tgt := 10) hx hb dX8_longest_34 (by decide) ?_
          exact ih10 (i_ + 1) (by omega) (by omega) (by omega) _ _ hP hD hS _ (lv_sub hl [2, 3, 1, 0] rfl)
        · skip
          refine lv_iload_n hx hb dX8_longest_25 rfl (lv_at hl 3 rfl) ?_
          refine lv_goto (tgt := 30) hx hb dX8_longest_26 (by decide) ?_
          refine zi_top (v := nI (lgst w_2 (i_ + 1))) (congrArg nI (lgst_yes h0 (by omega)).symm) ?_
          refine lv_istore_n (lv' := [(2, .int (nI (lgst w_2 (i_ + 1)))), (0, .ref (bd 0)), (1, .ref ra_), (3, .int (nI i_))]) hx hb dX8_longest_30 rfl hl (by decide) rfl (fun ls hl => ?_)
          refine lv_iinc (v := nI (i_ + 1)) (lv' := [(3, .int (nI (i_ + 1))), (2, .int (nI (lgst w_2 (i_ + 1)))), (0, .ref (bd 0)), (1, .ref ra_)]) hx hb dX8_longest_31 hl (k := 3) rfl (nI_1 _) (by decide) rfl (fun ls hl => ?_)
          refine lv_goto (tgt := 10) hx hb dX8_longest_34 (by decide) ?_
          exact ih10 (i_ + 1) (by omega) (by omega) (by omega) _ _ hP hD hS _ (lv_sub hl [2, 3, 1, 0] rfl)
  exact L10 (17 - 1 + 1) 1 (by omega) (by omega) (Nat.lt_succ_self _) _ _ hP hD hS _ (lv_sub hl [2, 3, 1, 0] rfl)
abbrev w_X8_adds : List Cond := Cond.code yX8_adds cX8_adds 4 (some .int) :: zAll
abbrev r_X8_adds : Room := { frames := 0, cells := 0, slots := 0, locals := 0 }
theorem zd_X8_adds : yX8_adds.cls = RX8 ∧ yX8_adds.cls ≠ "java/lang/invoke/MethodHandle" ∧ yX8_adds.cls ≠ "java/lang/invoke/VarHandle" ∧ (parseMethodDescriptor yX8_adds.desc).map (fun d => d.parameters.length) = some 1 := by decide +kernel
set_option maxHeartbeats 4000000 in
set_option maxRecDepth 100000 in
theorem c_X8_adds (l : Launch) (D : va_G) (cy : Nat → ClassId) (sz : Nat) (bd : Nat → Nat) (um_ : Nat) (ln_ : Nat) (at_ : Nat) (iw_ : Bool) (f_ : Nat → Nat) (ra_ : Nat) (rc_ : Nat → Nat) (hN_ : f_ 0 ≤ 16) (hK_ : f_ 1 ≤ 5) : zWi l yX8_adds w_X8_adds r_X8_adds D cy [((bd 0), .inr (5, [.int (nI 0), .ref (bd 1), .ref (bd 2), .int (nI um_), .ref (bd 3), .ref (bd 4), .ref (bd 5), .int (nI ln_), .int (nI at_), .int (if iw_ = true then 1 else 0), .ref (bd 6), .ref (bd 7), .ref (bd 8), .ref (bd 9), .ref (bd 10), .ref (bd 11), .ref (bd 12), .ref (bd 13), .ref (bd 14)])), ((bd 1), .inl (cy 0, 130, .inl (nIf f_))), (ra_, .inl (cy 0, 16, .inl (nIf rc_)))] sz [.ref (bd 0), .ref ra_] (fun (r_ : Int32) (u : (Nat → Nat)) => r_ = (nI (f_ 1)) ∧ u 1 = f_ 1 + 1 ∧ (∀ z_, z_ < f_ 0 → u (34 + 16 * f_ 1 + z_) = rc_ z_) ∧ ∀ z_, z_ ≠ 1 → z_ < 34 + 16 * f_ 1 → u z_ = f_ z_) (fun u : (Nat → Nat) => ([((bd 0), .inr (5, [.int (nI 0), .ref (bd 1), .ref (bd 2), .int (nI um_), .ref (bd 3), .ref (bd 4), .ref (bd 5), .int (nI ln_), .int (nI at_), .int (if iw_ = true then 1 else 0), .ref (bd 6), .ref (bd 7), .ref (bd 8), .ref (bd 9), .ref (bd 10), .ref (bd 11), .ref (bd 12), .ref (bd 13), .ref (bd 14)])), ((bd 1), .inl (cy 0, 130, .inl (nIf u))), (ra_, .inl (cy 0, 16, .inl (nIf rc_)))] : va_W)) := by
  refine zOfW (cc := cX8_adds) (maxL := 4) (ty := .int) (by decide) rfl (Nat.le_of_ble_eq_true rfl) ?_
  intro zp ze zs zm za zb zme zc hx hb hml hts hown hP hK zA hD hA Q kr ls hl
  have hS : va_S zA zs.heap zs.heap [] := va_S.rf
  have hown : zs.vm.findClass RX8 = some zm.cls := hown
  have hl : lv_has ls 4 [(0, .ref (bd 0)), (1, .ref ra_)] := hl
  refine lv_aload_n hx hb dX8_adds_0 rfl (lv_at hl 0 rfl) ?_
  refine va_get (D := D) (ci := 5) (v := .ref (bd 1)) (C := RX8) (T := TX8) (N := 19) hx hb hts (fun w h => List.mem_cons_of_mem _ (zinX8 w h)) hown hK.1 hP 0 rfl rfl 1 (by decide) (hts _ (List.mem_cons_of_mem _ zw_74)) (fun _ h9 => h9) rfl dX8_adds_1 ?_
  refine lv_iconst (v := nI 1) hx hb dX8_adds_4 (by decide) ?_
  refine zi_iald (v := nI (f_ 1)) hx hb hK hP 1 rfl (by omega) (by omega) rfl dX8_adds_5 ?_
  refine lv_istore_n (lv' := [(2, .int (nI (f_ 1))), (0, .ref (bd 0)), (1, .ref ra_)]) hx hb dX8_adds_6 rfl hl (by decide) rfl (fun ls hl => ?_)
  refine lv_iconst (v := nI 0) hx hb dX8_adds_7 (by decide) ?_
  refine lv_istore_n (lv' := [(3, .int (nI 0)), (2, .int (nI (f_ 1))), (0, .ref (bd 0)), (1, .ref ra_)]) hx hb dX8_adds_8 rfl hl (by decide) rfl (fun ls hl => ?_)
  have L9 : ∀ (kf_ : Nat) (i_ : Nat) (w_ : Nat → Nat) (hi : i_ ≤ f_ 0) (hn_ : ∀ z_, z_ < i_ → w_ (34 + 16 * f_ 1 + z_) = rc_ z_) (ho_ : ∀ z_, z_ < 34 + 16 * f_ 1 → w_ z_ = f_ z_), f_ 0 - i_ < kf_ → ∀ (H : Heap) (locs : List Loc), va_P D vwCl [((bd 0), .inr (5, [.int (nI 0), .ref (bd 1), .ref (bd 2), .int (nI um_), .ref (bd 3), .ref (bd 4), .ref (bd 5), .int (nI ln_), .int (nI at_), .int (if iw_ = true then 1 else 0), .ref (bd 6), .ref (bd 7), .ref (bd 8), .ref (bd 9), .ref (bd 10), .ref (bd 11), .ref (bd 12), .ref (bd 13), .ref (bd 14)])), ((bd 1), .inl (cy 0, 130, .inl (nIf w_))), (ra_, .inl (cy 0, 16, .inl (nIf rc_)))] H → va_D zA [((bd 0), .inr (5, [.int (nI 0), .ref (bd 1), .ref (bd 2), .int (nI um_), .ref (bd 3), .ref (bd 4), .ref (bd 5), .int (nI ln_), .int (nI at_), .int (if iw_ = true then 1 else 0), .ref (bd 6), .ref (bd 7), .ref (bd 8), .ref (bd 9), .ref (bd 10), .ref (bd 11), .ref (bd 12), .ref (bd 13), .ref (bd 14)])), ((bd 1), .inl (cy 0, 130, .inl (nIf w_))), (ra_, .inl (cy 0, 16, .inl (nIf rc_)))] → va_S zA zs.heap H locs → ∀ ls : Array Slot, lv_has ls 4 [(0, .ref (bd 0)), (1, .ref ra_), (2, .int (nI (f_ 1))), (3, .int (nI i_))] → W zp l ze r_X8_adds zs zm za zb zme zc H locs 0 0 Q (F0 zm 9 ls []) := by
    intro kf_
    induction kf_ with
    | zero => intro i_ w_ hi hn_ ho_ hk_; exact absurd hk_ (Nat.not_lt_zero _)
    | succ kf_ ih9 =>
      intro i_ w_ hi hn_ ho_ hk_ H locs hP hD hS ls hl
      refine lv_iload_n hx hb dX8_adds_9 rfl (lv_at hl 3 rfl) ?_
      refine lv_aload_n hx hb dX8_adds_10 rfl (lv_at hl 0 rfl) ?_
      refine va_get (D := D) (ci := 5) (v := .ref (bd 1)) (C := RX8) (T := TX8) (N := 19) hx hb hts (fun w h => List.mem_cons_of_mem _ (zinX8 w h)) hown hK.1 hP 0 rfl rfl 1 (by decide) (hts _ (List.mem_cons_of_mem _ zw_74)) (fun _ h9 => h9) rfl dX8_adds_11 ?_
      refine lv_iconst (v := nI 0) hx hb dX8_adds_14 (by decide) ?_
      refine zi_iald (v := nI (f_ 0)) hx hb hK hP 1 rfl (by omega) (by omega) (by show nI (w_ 0) = _; rw [ho_ 0 (by omega)]) dX8_adds_15 ?_
      refine zb_ge (a := i_) (b := f_ 0) (tgt := 42) hx hb dX8_adds_16 (by decide) (by omega) (by omega) (fun c16 => ?_) (fun c16 => ?_)
      · skip
        refine lv_aload_n hx hb dX8_adds_42 rfl (lv_at hl 0 rfl) ?_
        refine va_get (D := D) (ci := 5) (v := .ref (bd 1)) (C := RX8) (T := TX8) (N := 19) hx hb hts (fun w h => List.mem_cons_of_mem _ (zinX8 w h)) hown hK.1 hP 0 rfl rfl 1 (by decide) (hts _ (List.mem_cons_of_mem _ zw_74)) (fun _ h9 => h9) rfl dX8_adds_43 ?_
        refine lv_iconst (v := nI 1) hx hb dX8_adds_46 (by decide) ?_
        refine lv_dup2_11 hx hb dX8_adds_47 rfl rfl ?_
        refine zi_iald (v := nI (f_ 1)) hx hb hK hP 1 rfl (by omega) (by omega) (congrArg nI (ho_ 1 (by omega))) dX8_adds_48 ?_
        refine lv_iconst (v := nI 1) hx hb dX8_adds_49 (by decide) ?_
        refine zi_add (v := nI ((f_ 1) + 1)) hx hb dX8_adds_50 (nI_add _ _) ?_
        refine zi_iast hx hb hK hP hD hS 1 rfl (by omega) (by omega) dX8_adds_51 (fun H locs hP hD hS => ?_)
        rw [upd_nIf] at hP hD
        have hP : va_P D vwCl [((bd 0), .inr (5, [.int (nI 0), .ref (bd 1), .ref (bd 2), .int (nI um_), .ref (bd 3), .ref (bd 4), .ref (bd 5), .int (nI ln_), .int (nI at_), .int (if iw_ = true then 1 else 0), .ref (bd 6), .ref (bd 7), .ref (bd 8), .ref (bd 9), .ref (bd 10), .ref (bd 11), .ref (bd 12), .ref (bd 13), .ref (bd 14)])), ((bd 1), .inl (cy 0, 130, .inl (nIf (uN1 w_ 1 ((f_ 1) + 1))))), (ra_, .inl (cy 0, 16, .inl (nIf rc_)))] H := hP
        have hD : va_D zA [((bd 0), .inr (5, [.int (nI 0), .ref (bd 1), .ref (bd 2), .int (nI um_), .ref (bd 3), .ref (bd 4), .ref (bd 5), .int (nI ln_), .int (nI at_), .int (if iw_ = true then 1 else 0), .ref (bd 6), .ref (bd 7), .ref (bd 8), .ref (bd 9), .ref (bd 10), .ref (bd 11), .ref (bd 12), .ref (bd 13), .ref (bd 14)])), ((bd 1), .inl (cy 0, 130, .inl (nIf (uN1 w_ 1 ((f_ 1) + 1))))), (ra_, .inl (cy 0, 16, .inl (nIf rc_)))] := hD
        refine lv_iload_n hx hb dX8_adds_52 rfl (lv_at hl 2 rfl) ?_
        exact kr _ (uN1 w_ 1 (f_ 1 + 1)) _ _ _ _ dX8_adds_53 (vp_nar_int _) ⟨rfl, uN1_s _ _ _, fun z_ hz_ => (uN1_n _ (by omega)).trans (hn_ z_ (by omega)), fun z_ h1_ h2_ => (uN1_n _ h1_).trans (ho_ z_ h2_)⟩ hP hD hS
      · skip
        refine lv_aload_n hx hb dX8_adds_19 rfl (lv_at hl 0 rfl) ?_
        refine va_get (D := D) (ci := 5) (v := .ref (bd 1)) (C := RX8) (T := TX8) (N := 19) hx hb hts (fun w h => List.mem_cons_of_mem _ (zinX8 w h)) hown hK.1 hP 0 rfl rfl 1 (by decide) (hts _ (List.mem_cons_of_mem _ zw_74)) (fun _ h9 => h9) rfl dX8_adds_20 ?_
        refine lv_bipush (v := nI 34) hx hb dX8_adds_23 (by decide) ?_
        refine lv_bipush (v := nI 16) hx hb dX8_adds_25 (by decide) ?_
        refine lv_iload_n hx hb dX8_adds_27 rfl (lv_at hl 2 rfl) ?_
        refine zi_mul (v := nI (16 * (f_ 1))) hx hb dX8_adds_28 (pk_mul _ _) ?_
        refine zi_add (v := nI (34 + (16 * (f_ 1)))) hx hb dX8_adds_29 (nI_add _ _) ?_
        refine lv_iload_n hx hb dX8_adds_30 rfl (lv_at hl 3 rfl) ?_
        refine zi_add (v := nI ((34 + (16 * (f_ 1))) + i_)) hx hb dX8_adds_31 (nI_add _ _) ?_
        refine lv_aload_n hx hb dX8_adds_32 rfl (lv_at hl 1 rfl) ?_
        refine lv_iload_n hx hb dX8_adds_33 rfl (lv_at hl 3 rfl) ?_
        refine zi_iald (v := nI (rc_ i_)) hx hb hK hP 2 rfl (by omega) (by omega) rfl dX8_adds_34 ?_
        refine zi_iast hx hb hK hP hD hS 1 rfl (by omega) (by omega) dX8_adds_35 (fun H locs hP hD hS => ?_)
        rw [upd_nIf] at hP hD
        have hP : va_P D vwCl [((bd 0), .inr (5, [.int (nI 0), .ref (bd 1), .ref (bd 2), .int (nI um_), .ref (bd 3), .ref (bd 4), .ref (bd 5), .int (nI ln_), .int (nI at_), .int (if iw_ = true then 1 else 0), .ref (bd 6), .ref (bd 7), .ref (bd 8), .ref (bd 9), .ref (bd 10), .ref (bd 11), .ref (bd 12), .ref (bd 13), .ref (bd 14)])), ((bd 1), .inl (cy 0, 130, .inl (nIf (uN1 w_ ((34 + (16 * (f_ 1))) + i_) (rc_ i_))))), (ra_, .inl (cy 0, 16, .inl (nIf rc_)))] H := hP
        have hD : va_D zA [((bd 0), .inr (5, [.int (nI 0), .ref (bd 1), .ref (bd 2), .int (nI um_), .ref (bd 3), .ref (bd 4), .ref (bd 5), .int (nI ln_), .int (nI at_), .int (if iw_ = true then 1 else 0), .ref (bd 6), .ref (bd 7), .ref (bd 8), .ref (bd 9), .ref (bd 10), .ref (bd 11), .ref (bd 12), .ref (bd 13), .ref (bd 14)])), ((bd 1), .inl (cy 0, 130, .inl (nIf (uN1 w_ ((34 + (16 * (f_ 1))) + i_) (rc_ i_))))), (ra_, .inl (cy 0, 16, .inl (nIf rc_)))] := hD
        refine lv_iinc (v := nI (i_ + 1)) (lv' := [(3, .int (nI (i_ + 1))), (0, .ref (bd 0)), (1, .ref ra_), (2, .int (nI (f_ 1)))]) hx hb dX8_adds_36 hl (k := 3) rfl (nI_1 _) (by decide) rfl (fun ls hl => ?_)
        refine lv_goto (tgt := 9) hx hb dX8_adds_39 (by decide) ?_
        exact ih9 (i_ + 1) (uN1 w_ ((34 + (16 * (f_ 1))) + i_) (rc_ i_)) (by omega) (fun z_ hz_ => by by_cases q_ : z_ = i_; subst q_; exact uN1_s _ _ _; rw [uN1_n _ (by omega)]; exact hn_ z_ (by omega)) (fun z_ hz_ => by rw [uN1_n _ (by omega)]; exact ho_ z_ hz_) (by omega) _ _ hP hD hS _ (lv_sub hl [1, 2, 3, 0] rfl)
  exact L9 (f_ 0 - 0 + 1) 0 f_ (Nat.zero_le _) (fun z_ hz_ => absurd hz_ (Nat.not_lt_zero _)) (fun z_ _ => rfl) (Nat.lt_succ_self _) _ _ hP hD hS _ (lv_sub hl [2, 3, 1, 0] rfl)
abbrev w_X8_does : List Cond := Cond.code yX8_does cX8_does 3 (some .int) :: zAll
abbrev r_X8_does : Room := { frames := 0, cells := 0, slots := 0, locals := 0 }
theorem zd_X8_does : yX8_does.cls = RX8 ∧ yX8_does.cls ≠ "java/lang/invoke/MethodHandle" ∧ yX8_does.cls ≠ "java/lang/invoke/VarHandle" ∧ (parseMethodDescriptor yX8_does.desc).map (fun d => d.parameters.length) = some 1 := by decide +kernel
set_option maxHeartbeats 4000000 in
set_option maxRecDepth 100000 in
theorem c_X8_does (l : Launch) (D : va_G) (cy : Nat → ClassId) (sz : Nat) (bd : Nat → Nat) (um_ : Nat) (ln_ : Nat) (at_ : Nat) (iw_ : Bool) (f_ : Nat → Nat) (ra_ : Nat) (rc_ : Nat → Nat) (x_ : Int64) (nx_ : Nat → Nat) (hN_ : f_ 0 ≤ 16) (hr_ : RowX (f_ 0) rc_ x_) (hwx : WF (f_ 0) x_) (hT : ∀ z_, z_ < f_ 0 → f_ (18 + z_) < f_ 0) : zWi l yX8_does w_X8_does r_X8_does D cy [((bd 0), .inr (5, [.int (nI 0), .ref (bd 1), .ref (bd 2), .int (nI um_), .ref (bd 3), .ref (bd 4), .ref (bd 5), .int (nI ln_), .int (nI at_), .int (if iw_ = true then 1 else 0), .ref (bd 6), .ref (bd 7), .ref (bd 8), .ref (bd 9), .ref (bd 10), .ref (bd 11), .ref (bd 12), .ref (bd 13), .ref (bd 14)])), ((bd 1), .inl (cy 0, 130, .inl (nIf f_))), (ra_, .inl (cy 0, 16, .inl (nIf rc_))), ((bd 12), .inl (cy 0, 16, .inl (nIf nx_)))] sz [.ref (bd 0), .ref ra_] (fun (r_ : Int32) (u : (Nat → Nat) × (Nat → Nat)) => r_ = (nI (u.1 2)) ∧ (∀ z_, z_ < f_ 0 → u.1 (2 + rc_ z_) = f_ (2 + z_)) ∧ (∀ z_, z_ < f_ 0 → u.1 (18 + z_) = rc_ (f_ (18 + z_))) ∧ ∀ z_, z_ < 2 ∨ 34 ≤ z_ → u.1 z_ = f_ z_) (fun u : (Nat → Nat) × (Nat → Nat) => ([((bd 0), .inr (5, [.int (nI 0), .ref (bd 1), .ref (bd 2), .int (nI um_), .ref (bd 3), .ref (bd 4), .ref (bd 5), .int (nI ln_), .int (nI at_), .int (if iw_ = true then 1 else 0), .ref (bd 6), .ref (bd 7), .ref (bd 8), .ref (bd 9), .ref (bd 10), .ref (bd 11), .ref (bd 12), .ref (bd 13), .ref (bd 14)])), ((bd 1), .inl (cy 0, 130, .inl (nIf u.1))), (ra_, .inl (cy 0, 16, .inl (nIf rc_))), ((bd 12), .inl (cy 0, 16, .inl (nIf u.2)))] : va_W)) := by
  refine zOfW (cc := cX8_does) (maxL := 3) (ty := .int) (by decide) rfl (Nat.le_of_ble_eq_true rfl) ?_
  intro zp ze zs zm za zb zme zc hx hb hml hts hown hP hK zA hD hA Q kr ls hl
  have hS : va_S zA zs.heap zs.heap [] := va_S.rf
  have hown : zs.vm.findClass RX8 = some zm.cls := hown
  have hl : lv_has ls 3 [(0, .ref (bd 0)), (1, .ref ra_)] := hl
  refine lv_iconst (v := nI 0) hx hb dX8_does_0 (by decide) ?_
  refine lv_istore_n (lv' := [(2, .int (nI 0)), (0, .ref (bd 0)), (1, .ref ra_)]) hx hb dX8_does_1 rfl hl (by decide) rfl (fun ls hl => ?_)
  have L2 : ∀ (kf_ : Nat) (i_ : Nat) (y_ : Nat → Nat) (hi : i_ ≤ f_ 0) (hy : ∀ z_, z_ < i_ → y_ (rc_ z_) = f_ (2 + z_)), f_ 0 - i_ < kf_ → ∀ (H : Heap) (locs : List Loc), va_P D vwCl [((bd 0), .inr (5, [.int (nI 0), .ref (bd 1), .ref (bd 2), .int (nI um_), .ref (bd 3), .ref (bd 4), .ref (bd 5), .int (nI ln_), .int (nI at_), .int (if iw_ = true then 1 else 0), .ref (bd 6), .ref (bd 7), .ref (bd 8), .ref (bd 9), .ref (bd 10), .ref (bd 11), .ref (bd 12), .ref (bd 13), .ref (bd 14)])), ((bd 1), .inl (cy 0, 130, .inl (nIf f_))), (ra_, .inl (cy 0, 16, .inl (nIf rc_))), ((bd 12), .inl (cy 0, 16, .inl (nIf y_)))] H → va_D zA [((bd 0), .inr (5, [.int (nI 0), .ref (bd 1), .ref (bd 2), .int (nI um_), .ref (bd 3), .ref (bd 4), .ref (bd 5), .int (nI ln_), .int (nI at_), .int (if iw_ = true then 1 else 0), .ref (bd 6), .ref (bd 7), .ref (bd 8), .ref (bd 9), .ref (bd 10), .ref (bd 11), .ref (bd 12), .ref (bd 13), .ref (bd 14)])), ((bd 1), .inl (cy 0, 130, .inl (nIf f_))), (ra_, .inl (cy 0, 16, .inl (nIf rc_))), ((bd 12), .inl (cy 0, 16, .inl (nIf y_)))] → va_S zA zs.heap H locs → ∀ ls : Array Slot, lv_has ls 3 [(0, .ref (bd 0)), (1, .ref ra_), (2, .int (nI i_))] → W zp l ze r_X8_does zs zm za zb zme zc H locs 0 0 Q (F0 zm 2 ls []) := by
    intro kf_
    induction kf_ with
    | zero => intro i_ y_ hi hy hk_; exact absurd hk_ (Nat.not_lt_zero _)
    | succ kf_ ih2 =>
      intro i_ y_ hi hy hk_ H locs hP hD hS ls hl
      refine lv_iload_n hx hb dX8_does_2 rfl (lv_at hl 2 rfl) ?_
      refine lv_aload_n hx hb dX8_does_3 rfl (lv_at hl 0 rfl) ?_
      refine va_get (D := D) (ci := 5) (v := .ref (bd 1)) (C := RX8) (T := TX8) (N := 19) hx hb hts (fun w h => List.mem_cons_of_mem _ (zinX8 w h)) hown hK.1 hP 0 rfl rfl 1 (by decide) (hts _ (List.mem_cons_of_mem _ zw_74)) (fun _ h9 => h9) rfl dX8_does_4 ?_
      refine lv_iconst (v := nI 0) hx hb dX8_does_7 (by decide) ?_
      refine zi_iald (v := nI (f_ 0)) hx hb hK hP 1 rfl (by omega) (by omega) rfl dX8_does_8 ?_
      refine zb_ge (a := i_) (b := f_ 0) (tgt := 34) hx hb dX8_does_9 (by decide) (by omega) (by omega) (fun c9 => ?_) (fun c9 => ?_)
      · skip
        refine lv_iconst (v := nI 0) hx hb dX8_does_34 (by decide) ?_
        refine lv_istore_n (lv' := [(2, .int (nI 0)), (0, .ref (bd 0)), (1, .ref ra_)]) hx hb dX8_does_35 rfl hl (by decide) rfl (fun ls hl => ?_)
        have L36 : ∀ (kf_ : Nat) (i_ : Nat) (w_ : Nat → Nat) (hi : i_ ≤ f_ 0) (hn_ : ∀ z_, z_ < i_ → w_ (2 + z_) = y_ z_ ∧ w_ (18 + z_) = rc_ (f_ (18 + z_))) (ho_ : ∀ z_, z_ < 2 ∨ (2 + i_ ≤ z_ ∧ z_ < 18) ∨ 18 + i_ ≤ z_ ∧ z_ < 34 ∨ 34 ≤ z_ → w_ z_ = f_ z_), f_ 0 - i_ < kf_ → ∀ (H : Heap) (locs : List Loc), va_P D vwCl [((bd 0), .inr (5, [.int (nI 0), .ref (bd 1), .ref (bd 2), .int (nI um_), .ref (bd 3), .ref (bd 4), .ref (bd 5), .int (nI ln_), .int (nI at_), .int (if iw_ = true then 1 else 0), .ref (bd 6), .ref (bd 7), .ref (bd 8), .ref (bd 9), .ref (bd 10), .ref (bd 11), .ref (bd 12), .ref (bd 13), .ref (bd 14)])), ((bd 1), .inl (cy 0, 130, .inl (nIf w_))), (ra_, .inl (cy 0, 16, .inl (nIf rc_))), ((bd 12), .inl (cy 0, 16, .inl (nIf y_)))] H → va_D zA [((bd 0), .inr (5, [.int (nI 0), .ref (bd 1), .ref (bd 2), .int (nI um_), .ref (bd 3), .ref (bd 4), .ref (bd 5), .int (nI ln_), .int (nI at_), .int (if iw_ = true then 1 else 0), .ref (bd 6), .ref (bd 7), .ref (bd 8), .ref (bd 9), .ref (bd 10), .ref (bd 11), .ref (bd 12), .ref (bd 13), .ref (bd 14)])), ((bd 1), .inl (cy 0, 130, .inl (nIf w_))), (ra_, .inl (cy 0, 16, .inl (nIf rc_))), ((bd 12), .inl (cy 0, 16, .inl (nIf y_)))] → va_S zA zs.heap H locs → ∀ ls : Array Slot, lv_has ls 3 [(0, .ref (bd 0)), (1, .ref ra_), (2, .int (nI i_))] → W zp l ze r_X8_does zs zm za zb zme zc H locs 0 0 Q (F0 zm 36 ls []) := by
          intro kf_
          induction kf_ with
          | zero => intro i_ w_ hi hn_ ho_ hk_; exact absurd hk_ (Nat.not_lt_zero _)
          | succ kf_ ih36 =>
            intro i_ w_ hi hn_ ho_ hk_ H locs hP hD hS ls hl
            refine lv_iload_n hx hb dX8_does_36 rfl (lv_at hl 2 rfl) ?_
            refine lv_aload_n hx hb dX8_does_37 rfl (lv_at hl 0 rfl) ?_
            refine va_get (D := D) (ci := 5) (v := .ref (bd 1)) (C := RX8) (T := TX8) (N := 19) hx hb hts (fun w h => List.mem_cons_of_mem _ (zinX8 w h)) hown hK.1 hP 0 rfl rfl 1 (by decide) (hts _ (List.mem_cons_of_mem _ zw_74)) (fun _ h9 => h9) rfl dX8_does_38 ?_
            refine lv_iconst (v := nI 0) hx hb dX8_does_41 (by decide) ?_
            refine zi_iald (v := nI (f_ 0)) hx hb hK hP 1 rfl (by omega) (by omega) (congrArg nI (ho_ 0 (by omega))) dX8_does_42 ?_
            refine zb_ge (a := i_) (b := f_ 0) (tgt := 86) hx hb dX8_does_43 (by decide) (by omega) (by omega) (fun c43 => ?_) (fun c43 => ?_)
            · skip
              refine lv_aload_n hx hb dX8_does_86 rfl (lv_at hl 0 rfl) ?_
              refine va_get (D := D) (ci := 5) (v := .ref (bd 1)) (C := RX8) (T := TX8) (N := 19) hx hb hts (fun w h => List.mem_cons_of_mem _ (zinX8 w h)) hown hK.1 hP 0 rfl rfl 1 (by decide) (hts _ (List.mem_cons_of_mem _ zw_74)) (fun _ h9 => h9) rfl dX8_does_87 ?_
              refine lv_iconst (v := nI 2) hx hb dX8_does_90 (by decide) ?_
              refine zi_iald (v := nI (w_ 2)) hx hb hK hP 1 rfl (by omega) (by omega) rfl dX8_does_91 ?_
              exact kr _ (w_, y_) _ _ _ _ dX8_does_92 (vp_nar_int _) ⟨rfl, fun z_ hz_ => (hn_ _ (Nat.lt_of_lt_of_le (RowX.lt hr_ hwx hN_ hz_) (by omega))).1.trans (hy z_ (by omega)), fun z_ hz_ => (hn_ z_ (by omega)).2, fun z_ hz_ => ho_ z_ (by omega)⟩ hP hD hS
            · skip
              refine lv_aload_n hx hb dX8_does_46 rfl (lv_at hl 0 rfl) ?_
              refine va_get (D := D) (ci := 5) (v := .ref (bd 1)) (C := RX8) (T := TX8) (N := 19) hx hb hts (fun w h => List.mem_cons_of_mem _ (zinX8 w h)) hown hK.1 hP 0 rfl rfl 1 (by decide) (hts _ (List.mem_cons_of_mem _ zw_74)) (fun _ h9 => h9) rfl dX8_does_47 ?_
              refine lv_iconst (v := nI 2) hx hb dX8_does_50 (by decide) ?_
              refine lv_iload_n hx hb dX8_does_51 rfl (lv_at hl 2 rfl) ?_
              refine zi_add (v := nI (2 + i_)) hx hb dX8_does_52 (nI_add _ _) ?_
              refine lv_aload_n hx hb dX8_does_53 rfl (lv_at hl 0 rfl) ?_
              refine va_get (D := D) (ci := 5) (v := .ref (bd 12)) (C := RX8) (T := TX8) (N := 19) hx hb hts (fun w h => List.mem_cons_of_mem _ (zinX8 w h)) hown hK.1 hP 0 rfl rfl 16 (by decide) (hts _ (List.mem_cons_of_mem _ zw_85)) (fun _ h9 => h9) rfl dX8_does_54 ?_
              refine lv_iload_n hx hb dX8_does_57 rfl (lv_at hl 2 rfl) ?_
              refine zi_iald (v := nI (y_ i_)) hx hb hK hP 3 rfl (by omega) (by omega) rfl dX8_does_58 ?_
              refine zi_iast hx hb hK hP hD hS 1 rfl (by omega) (by omega) dX8_does_59 (fun H locs hP hD hS => ?_)
              rw [upd_nIf] at hP hD
              have hP : va_P D vwCl [((bd 0), .inr (5, [.int (nI 0), .ref (bd 1), .ref (bd 2), .int (nI um_), .ref (bd 3), .ref (bd 4), .ref (bd 5), .int (nI ln_), .int (nI at_), .int (if iw_ = true then 1 else 0), .ref (bd 6), .ref (bd 7), .ref (bd 8), .ref (bd 9), .ref (bd 10), .ref (bd 11), .ref (bd 12), .ref (bd 13), .ref (bd 14)])), ((bd 1), .inl (cy 0, 130, .inl (nIf (uN1 w_ (2 + i_) (y_ i_))))), (ra_, .inl (cy 0, 16, .inl (nIf rc_))), ((bd 12), .inl (cy 0, 16, .inl (nIf y_)))] H := hP
              have hD : va_D zA [((bd 0), .inr (5, [.int (nI 0), .ref (bd 1), .ref (bd 2), .int (nI um_), .ref (bd 3), .ref (bd 4), .ref (bd 5), .int (nI ln_), .int (nI at_), .int (if iw_ = true then 1 else 0), .ref (bd 6), .ref (bd 7), .ref (bd 8), .ref (bd 9), .ref (bd 10), .ref (bd 11), .ref (bd 12), .ref (bd 13), .ref (bd 14)])), ((bd 1), .inl (cy 0, 130, .inl (nIf (uN1 w_ (2 + i_) (y_ i_))))), (ra_, .inl (cy 0, 16, .inl (nIf rc_))), ((bd 12), .inl (cy 0, 16, .inl (nIf y_)))] := hD
              refine lv_aload_n hx hb dX8_does_60 rfl (lv_at hl 0 rfl) ?_
              refine va_get (D := D) (ci := 5) (v := .ref (bd 1)) (C := RX8) (T := TX8) (N := 19) hx hb hts (fun w h => List.mem_cons_of_mem _ (zinX8 w h)) hown hK.1 hP 0 rfl rfl 1 (by decide) (hts _ (List.mem_cons_of_mem _ zw_74)) (fun _ h9 => h9) rfl dX8_does_61 ?_
              refine lv_bipush (v := nI 18) hx hb dX8_does_64 (by decide) ?_
              refine lv_iload_n hx hb dX8_does_66 rfl (lv_at hl 2 rfl) ?_
              refine zi_add (v := nI (18 + i_)) hx hb dX8_does_67 (nI_add _ _) ?_
              refine lv_aload_n hx hb dX8_does_68 rfl (lv_at hl 1 rfl) ?_
              refine lv_aload_n hx hb dX8_does_69 rfl (lv_at hl 0 rfl) ?_
              refine va_get (D := D) (ci := 5) (v := .ref (bd 1)) (C := RX8) (T := TX8) (N := 19) hx hb hts (fun w h => List.mem_cons_of_mem _ (zinX8 w h)) hown hK.1 hP 0 rfl rfl 1 (by decide) (hts _ (List.mem_cons_of_mem _ zw_74)) (fun _ h9 => h9) rfl dX8_does_70 ?_
              refine lv_bipush (v := nI 18) hx hb dX8_does_73 (by decide) ?_
              refine lv_iload_n hx hb dX8_does_75 rfl (lv_at hl 2 rfl) ?_
              refine zi_add (v := nI (18 + i_)) hx hb dX8_does_76 (nI_add _ _) ?_
              have ht77 := hT i_ (by omega)
              refine zi_iald (v := nI (f_ (18 + i_))) hx hb hK hP 1 rfl (by omega) (by omega) (congrArg nI ((uN1_n _ (by omega)).trans (ho_ _ (by omega)))) dX8_does_77 ?_
              refine zi_iald (v := nI (rc_ (f_ (18 + i_)))) hx hb hK hP 2 rfl (by omega) (by omega) rfl dX8_does_78 ?_
              refine zi_iast hx hb hK hP hD hS 1 rfl (by omega) (by omega) dX8_does_79 (fun H locs hP hD hS => ?_)
              rw [upd_nIf] at hP hD
              have hP : va_P D vwCl [((bd 0), .inr (5, [.int (nI 0), .ref (bd 1), .ref (bd 2), .int (nI um_), .ref (bd 3), .ref (bd 4), .ref (bd 5), .int (nI ln_), .int (nI at_), .int (if iw_ = true then 1 else 0), .ref (bd 6), .ref (bd 7), .ref (bd 8), .ref (bd 9), .ref (bd 10), .ref (bd 11), .ref (bd 12), .ref (bd 13), .ref (bd 14)])), ((bd 1), .inl (cy 0, 130, .inl (nIf (uN1 (uN1 w_ (2 + i_) (y_ i_)) (18 + i_) (rc_ (f_ (18 + i_))))))), (ra_, .inl (cy 0, 16, .inl (nIf rc_))), ((bd 12), .inl (cy 0, 16, .inl (nIf y_)))] H := hP
              have hD : va_D zA [((bd 0), .inr (5, [.int (nI 0), .ref (bd 1), .ref (bd 2), .int (nI um_), .ref (bd 3), .ref (bd 4), .ref (bd 5), .int (nI ln_), .int (nI at_), .int (if iw_ = true then 1 else 0), .ref (bd 6), .ref (bd 7), .ref (bd 8), .ref (bd 9), .ref (bd 10), .ref (bd 11), .ref (bd 12), .ref (bd 13), .ref (bd 14)])), ((bd 1), .inl (cy 0, 130, .inl (nIf (uN1 (uN1 w_ (2 + i_) (y_ i_)) (18 + i_) (rc_ (f_ (18 + i_))))))), (ra_, .inl (cy 0, 16, .inl (nIf rc_))), ((bd 12), .inl (cy 0, 16, .inl (nIf y_)))] := hD
              refine lv_iinc (v := nI (i_ + 1)) (lv' := [(2, .int (nI (i_ + 1))), (0, .ref (bd 0)), (1, .ref ra_)]) hx hb dX8_does_80 hl (k := 2) rfl (nI_1 _) (by decide) rfl (fun ls hl => ?_)
              refine lv_goto (tgt := 36) hx hb dX8_does_83 (by decide) ?_
              exact ih36 (i_ + 1) (uN1 (uN1 w_ (2 + i_) (y_ i_)) (18 + i_) (rc_ (f_ (18 + i_)))) (by omega) (fun z_ hz_ => by by_cases q_ : z_ = i_; subst q_; exact ⟨(uN1_n _ (by omega)).trans (uN1_s _ _ _), uN1_s _ _ _⟩; rw [uN1_n _ (by omega), uN1_n _ (by omega), uN1_n _ (by omega), uN1_n _ (by omega)]; exact hn_ z_ (by omega)) (fun z_ hz_ => by rw [uN1_n _ (by omega), uN1_n _ (by omega)]; exact ho_ z_ (by omega)) (by omega) _ _ hP hD hS _ (lv_sub hl [1, 2, 0] rfl)
        exact L36 (f_ 0 - 0 + 1) 0 f_ (Nat.zero_le _) (fun z_ hz_ => absurd hz_ (Nat.not_lt_zero _)) (fun z_ _ => rfl) (Nat.lt_succ_self _) _ _ hP hD hS _ (lv_sub hl [1, 2, 0] rfl)
      · skip
        refine lv_aload_n hx hb dX8_does_12 rfl (lv_at hl 0 rfl) ?_
        refine va_get (D := D) (ci := 5) (v := .ref (bd 12)) (C := RX8) (T := TX8) (N := 19) hx hb hts (fun w h => List.mem_cons_of_mem _ (zinX8 w h)) hown hK.1 hP 0 rfl rfl 16 (by decide) (hts _ (List.mem_cons_of_mem _ zw_85)) (fun _ h9 => h9) rfl dX8_does_13 ?_
        refine lv_aload_n hx hb dX8_does_16 rfl (lv_at hl 1 rfl) ?_
        refine lv_iload_n hx hb dX8_does_17 rfl (lv_at hl 2 rfl) ?_
        have hr18 := RowX.lt hr_ hwx hN_ (p := i_) (by omega)
        refine zi_iald (v := nI (rc_ i_)) hx hb hK hP 2 rfl (by omega) (by omega) rfl dX8_does_18 ?_
        refine lv_aload_n hx hb dX8_does_19 rfl (lv_at hl 0 rfl) ?_
        refine va_get (D := D) (ci := 5) (v := .ref (bd 1)) (C := RX8) (T := TX8) (N := 19) hx hb hts (fun w h => List.mem_cons_of_mem _ (zinX8 w h)) hown hK.1 hP 0 rfl rfl 1 (by decide) (hts _ (List.mem_cons_of_mem _ zw_74)) (fun _ h9 => h9) rfl dX8_does_20 ?_
        refine lv_iconst (v := nI 2) hx hb dX8_does_23 (by decide) ?_
        refine lv_iload_n hx hb dX8_does_24 rfl (lv_at hl 2 rfl) ?_
        refine zi_add (v := nI (2 + i_)) hx hb dX8_does_25 (nI_add _ _) ?_
        refine zi_iald (v := nI (f_ (2 + i_))) hx hb hK hP 1 rfl (by omega) (by omega) rfl dX8_does_26 ?_
        refine zi_iast hx hb hK hP hD hS 3 rfl (by omega) (by omega) dX8_does_27 (fun H locs hP hD hS => ?_)
        rw [upd_nIf] at hP hD
        have hP : va_P D vwCl [((bd 0), .inr (5, [.int (nI 0), .ref (bd 1), .ref (bd 2), .int (nI um_), .ref (bd 3), .ref (bd 4), .ref (bd 5), .int (nI ln_), .int (nI at_), .int (if iw_ = true then 1 else 0), .ref (bd 6), .ref (bd 7), .ref (bd 8), .ref (bd 9), .ref (bd 10), .ref (bd 11), .ref (bd 12), .ref (bd 13), .ref (bd 14)])), ((bd 1), .inl (cy 0, 130, .inl (nIf f_))), (ra_, .inl (cy 0, 16, .inl (nIf rc_))), ((bd 12), .inl (cy 0, 16, .inl (nIf (uN1 y_ (rc_ i_) (f_ (2 + i_))))))] H := hP
        have hD : va_D zA [((bd 0), .inr (5, [.int (nI 0), .ref (bd 1), .ref (bd 2), .int (nI um_), .ref (bd 3), .ref (bd 4), .ref (bd 5), .int (nI ln_), .int (nI at_), .int (if iw_ = true then 1 else 0), .ref (bd 6), .ref (bd 7), .ref (bd 8), .ref (bd 9), .ref (bd 10), .ref (bd 11), .ref (bd 12), .ref (bd 13), .ref (bd 14)])), ((bd 1), .inl (cy 0, 130, .inl (nIf f_))), (ra_, .inl (cy 0, 16, .inl (nIf rc_))), ((bd 12), .inl (cy 0, 16, .inl (nIf (uN1 y_ (rc_ i_) (f_ (2 + i_))))))] := hD
        refine lv_iinc (v := nI (i_ + 1)) (lv' := [(2, .int (nI (i_ + 1))), (0, .ref (bd 0)), (1, .ref ra_)]) hx hb dX8_does_28 hl (k := 2) rfl (nI_1 _) (by decide) rfl (fun ls hl => ?_)
        refine lv_goto (tgt := 2) hx hb dX8_does_31 (by decide) ?_
        exact ih2 (i_ + 1) (uN1 y_ (rc_ i_) (f_ (2 + i_))) (by omega) (fun z_ hz_ => by by_cases q_ : z_ = i_; subst q_; exact uN1_s _ _ _; rw [uN1_n _ (fun e_ => q_ (RowX.inj hr_ hwx hN_ (by omega) (by omega) e_))]; exact hy z_ (by omega)) (by omega) _ _ hP hD hS _ (lv_sub hl [1, 2, 0] rfl)
  exact L2 (f_ 0 - 0 + 1) 0 nx_ (Nat.zero_le _) (fun z_ hz_ => absurd hz_ (Nat.not_lt_zero _)) (Nat.lt_succ_self _) _ _ hP hD hS _ (lv_sub hl [1, 2, 0] rfl)

abbrev w_X8_ordersIn : List Cond := Cond.code yX8_ordersIn cX8_ordersIn 5 (some .int) :: zAll
abbrev r_X8_ordersIn : Room := { frames := 2, cells := 0, slots := 0, locals := 45 }
theorem zd_X8_ordersIn : yX8_ordersIn.cls = RX8 ∧ yX8_ordersIn.cls ≠ "java/lang/invoke/MethodHandle" ∧ yX8_ordersIn.cls ≠ "java/lang/invoke/VarHandle" ∧ (parseMethodDescriptor yX8_ordersIn.desc).map (fun d => d.parameters.length) = some 1 := by decide +kernel
set_option maxHeartbeats 4000000 in
set_option maxRecDepth 100000 in
theorem c_X8_ordersIn (l : Launch) (D : va_G) (cy : Nat → ClassId) (sz : Nat) (bd : Nat → Nat) (um_ : Nat) (ln_ : Nat) (at_ : Nat) (iw_ : Bool) (f_ : Nat → Nat) (m_ : MT) (o1_ : Nat → Nat) (a_ : Int32) (hw : TVok m_.1) (hR : RowR m_.1 f_) : zWi l yX8_ordersIn w_X8_ordersIn r_X8_ordersIn D cy [((bd 0), .inr (5, [.int (nI 0), .ref (bd 1), .ref (bd 2), .int (nI um_), .ref (bd 3), .ref (bd 4), .ref (bd 5), .int (nI ln_), .int (nI at_), .int (if iw_ = true then 1 else 0), .ref (bd 6), .ref (bd 7), .ref (bd 8), .ref (bd 9), .ref (bd 10), .ref (bd 11), .ref (bd 12), .ref (bd 13), .ref (bd 14)])), ((bd 1), .inl (cy 0, 130, .inl (nIf f_))), ((bd 8), .inl (cy 0, 16, .inl (nIf o1_)))] sz [.ref (bd 0), .int a_] (fun (r_ : Int32) (u : (Nat → Nat)) => r_ = (qOrdersIn m_ a_) ∧ True) (fun u : (Nat → Nat) => ([((bd 0), .inr (5, [.int (nI 0), .ref (bd 1), .ref (bd 2), .int (nI um_), .ref (bd 3), .ref (bd 4), .ref (bd 5), .int (nI ln_), .int (nI at_), .int (if iw_ = true then 1 else 0), .ref (bd 6), .ref (bd 7), .ref (bd 8), .ref (bd 9), .ref (bd 10), .ref (bd 11), .ref (bd 12), .ref (bd 13), .ref (bd 14)])), ((bd 1), .inl (cy 0, 130, .inl (nIf f_))), ((bd 8), .inl (cy 0, 16, .inl (nIf u)))] : va_W)) := by
  refine zOfW (cc := cX8_ordersIn) (maxL := 5) (ty := .int) (by decide) rfl (Nat.le_of_ble_eq_true rfl) ?_
  intro zp ze zs zm za zb zme zc hx hb hml hts hown hP hK zA hD hA Q kr ls hl
  have hS : va_S zA zs.heap zs.heap [] := va_S.rf
  have hown : zs.vm.findClass RX8 = some zm.cls := hown
  have hl : lv_has ls 5 [(0, .ref (bd 0)), (1, .int a_)] := hl
  have hn2 := ok_2 hw
  have hn16 := ok_n hw
  have hC6 := ok_C hw
  have hwP := ok_P hw
  have hf0 : f_ 0 = mN m_ := hR.1
  have hf1 : f_ 1 = mC m_ := hR.2.1
  have hk0_ : (nI 0).toInt = 0 := rfl
  have hk9_ : (nI 999).toInt = 999 := rfl
  have hk8_ : (-999 : Int32).toInt = -999 := rfl
  refine lv_aload_n hx hb dX8_ordersIn_0 rfl (lv_at hl 0 rfl) ?_
  refine lv_iconst (v := nI 0) hx hb dX8_ordersIn_1 (by decide) ?_
  refine va_put (D := D) (ci := 5) (v := .int (nI 0)) (ty := .int) (C := RX8) (T := TX8) (N := 19) hx hb hts (fun w h => List.mem_cons_of_mem _ (zinX8 w h)) tyX8 tyX8_ok nmX8 hown hK.1 hP hD hS 0 rfl rfl 0 (by decide) (hts _ (List.mem_cons_of_mem _ zw_88)) (fun _ h9 => h9) rfl (tyX8_ok 0 (by decide)) rfl rfl (Nat.le_of_ble_eq_true rfl) dX8_ordersIn_2 (fun H locs hP hD hS => ?_)
  have hP : va_P D vwCl [((bd 0), .inr (5, [.int (nI 0), .ref (bd 1), .ref (bd 2), .int (nI um_), .ref (bd 3), .ref (bd 4), .ref (bd 5), .int (nI ln_), .int (nI at_), .int (if iw_ = true then 1 else 0), .ref (bd 6), .ref (bd 7), .ref (bd 8), .ref (bd 9), .ref (bd 10), .ref (bd 11), .ref (bd 12), .ref (bd 13), .ref (bd 14)])), ((bd 1), .inl (cy 0, 130, .inl (nIf f_))), ((bd 8), .inl (cy 0, 16, .inl (nIf o1_)))] H := hP
  have hD : va_D zA [((bd 0), .inr (5, [.int (nI 0), .ref (bd 1), .ref (bd 2), .int (nI um_), .ref (bd 3), .ref (bd 4), .ref (bd 5), .int (nI ln_), .int (nI at_), .int (if iw_ = true then 1 else 0), .ref (bd 6), .ref (bd 7), .ref (bd 8), .ref (bd 9), .ref (bd 10), .ref (bd 11), .ref (bd 12), .ref (bd 13), .ref (bd 14)])), ((bd 1), .inl (cy 0, 130, .inl (nIf f_))), ((bd 8), .inl (cy 0, 16, .inl (nIf o1_)))] := hD
  refine lv_aload_n hx hb dX8_ordersIn_5 rfl (lv_at hl 0 rfl) ?_
  refine lv_iload_n hx hb dX8_ordersIn_6 rfl (lv_at hl 1 rfl) ?_
  refine zcRi (As := [.int a_]) (rest := []) ⟨hx, hb, hml, hown, hts⟩ (c_X8_isMark l D cy bd um_ ln_ at_ iw_ f_ a_ (by omega)) (cwV 1 hts (zG_V zw_253 zw_254 zw_255 zw_5 zw_256) rfl rfl rfl zd_X8_isMark ⟨Nat.le_of_ble_eq_true rfl, Nat.le_of_ble_eq_true rfl⟩) hK hP [0, 1] rfl rfl rfl rfl rfl hl.1 rfl (Nat.le_of_ble_eq_true rfl) dX8_ordersIn_7 ⟨Nat.zero_le _, Nat.zero_le _⟩ (fun r7 h7 => ?_)
  subst h7
  refine zq_ne (tgt := 15) hx hb dX8_ordersIn_10 (by decide) (fun c10 => ?_) (fun c10 => ?_)
  · skip
    have hba : bM m_ a_ = true := bM_iff.mpr (by omega)
    have hia : ix a_ < mC m_ := by unfold ix; omega
    obtain ⟨xa_, hxa_⟩ : ∃ zz_, zz_ = mM m_ (ix a_) := ⟨_, rfl⟩
    have hXa := fetch_X hR hba o1_
    have hwa := ok_M hw hia
    rw [← hf0, ← hxa_] at hwa
    rw [← hxa_] at hXa
    have hwP2 : WF (f_ 0) (mP m_) := by rw [hf0]; exact hwP
    refine lv_aload_n hx hb dX8_ordersIn_15 rfl (lv_at hl 0 rfl) ?_
    refine lv_aload_n hx hb dX8_ordersIn_16 rfl (lv_at hl 0 rfl) ?_
    refine va_get (D := D) (ci := 5) (v := .ref (bd 8)) (C := RX8) (T := TX8) (N := 19) hx hb hts (fun w h => List.mem_cons_of_mem _ (zinX8 w h)) hown hK.1 hP 0 rfl rfl 12 (by decide) (hts _ (List.mem_cons_of_mem _ zw_81)) (fun _ h9 => h9) rfl dX8_ordersIn_17 ?_
    refine lv_iload_n hx hb dX8_ordersIn_20 rfl (lv_at hl 1 rfl) ?_
    refine zcWv (As := [.ref (bd 8), .int a_]) (rest := []) (wr := []) ⟨hx, hb, hml, hown, hts⟩ (c_X8_fetches l D cy H.size bd um_ ln_ at_ iw_ f_ (bd 8) o1_ a_ (by omega) (by omega)) (cwV 2 hts (zG_V zw_257 zw_258 zw_259 zw_5 zw_260) rfl rfl rfl zd_X8_fetches ⟨Nat.le_of_ble_eq_true rfl, Nat.le_of_ble_eq_true rfl⟩) hK hP hD hS hA [0, 1, 2] [] [0, 1, 2] rfl (by decide) rfl (by decide) (by decide) (w2 := (fun u_ : Unit => ([((bd 0), .inr (5, [.int (nI 0), .ref (bd 1), .ref (bd 2), .int (nI um_), .ref (bd 3), .ref (bd 4), .ref (bd 5), .int (nI ln_), .int (nI at_), .int (if iw_ = true then 1 else 0), .ref (bd 6), .ref (bd 7), .ref (bd 8), .ref (bd 9), .ref (bd 10), .ref (bd 11), .ref (bd 12), .ref (bd 13), .ref (bd 14)])), ((bd 1), .inl (cy 0, 130, .inl (nIf f_))), ((bd 8), .inl (cy 0, 16, .inl (nIf (fil (gTo f_ a_) o1_ (f_ 0)))))] : va_W))) (fun _ => rfl) (by decide) rfl rfl rfl rfl hl.1 rfl (Nat.le_of_ble_eq_true rfl) dX8_ordersIn_21 ⟨Nat.zero_le _, Nat.zero_le _⟩ (fun  u21 H locs h21 hP hD hS => ?_)
    have h21 : True := h21
    have hP : va_P D vwCl [((bd 0), .inr (5, [.int (nI 0), .ref (bd 1), .ref (bd 2), .int (nI um_), .ref (bd 3), .ref (bd 4), .ref (bd 5), .int (nI ln_), .int (nI at_), .int (if iw_ = true then 1 else 0), .ref (bd 6), .ref (bd 7), .ref (bd 8), .ref (bd 9), .ref (bd 10), .ref (bd 11), .ref (bd 12), .ref (bd 13), .ref (bd 14)])), ((bd 1), .inl (cy 0, 130, .inl (nIf f_))), ((bd 8), .inl (cy 0, 16, .inl (nIf (fil (gTo f_ a_) o1_ (f_ 0)))))] H := hP
    have hD : va_D zA [((bd 0), .inr (5, [.int (nI 0), .ref (bd 1), .ref (bd 2), .int (nI um_), .ref (bd 3), .ref (bd 4), .ref (bd 5), .int (nI ln_), .int (nI at_), .int (if iw_ = true then 1 else 0), .ref (bd 6), .ref (bd 7), .ref (bd 8), .ref (bd 9), .ref (bd 10), .ref (bd 11), .ref (bd 12), .ref (bd 13), .ref (bd 14)])), ((bd 1), .inl (cy 0, 130, .inl (nIf f_))), ((bd 8), .inl (cy 0, 16, .inl (nIf (fil (gTo f_ a_) o1_ (f_ 0)))))] := hD
    refine lv_iconst (v := nI 0) hx hb dX8_ordersIn_24 (by decide) ?_
    refine lv_istore_n (lv' := [(2, .int (nI 0)), (0, .ref (bd 0)), (1, .int a_)]) hx hb dX8_ordersIn_25 rfl hl (by decide) rfl (fun ls hl => ?_)
    have L26 : ∀ (kf_ : Nat) (t_ : Nat) (ht : t_ ≤ 200) (hl_ : ∀ j_, j_ < t_ → itL (mP m_) xa_ j_ ≠ stayL), 200 - t_ < kf_ → ∀ (H : Heap) (locs : List Loc), va_P D vwCl [((bd 0), .inr (5, [.int (nI 0), .ref (bd 1), .ref (bd 2), .int (nI um_), .ref (bd 3), .ref (bd 4), .ref (bd 5), .int (nI ln_), .int (nI at_), .int (if iw_ = true then 1 else 0), .ref (bd 6), .ref (bd 7), .ref (bd 8), .ref (bd 9), .ref (bd 10), .ref (bd 11), .ref (bd 12), .ref (bd 13), .ref (bd 14)])), ((bd 1), .inl (cy 0, 130, .inl (nIf f_))), ((bd 8), .inl (cy 0, 16, .inl (nIf (fil (gTo f_ a_) o1_ (f_ 0)))))] H → va_D zA [((bd 0), .inr (5, [.int (nI 0), .ref (bd 1), .ref (bd 2), .int (nI um_), .ref (bd 3), .ref (bd 4), .ref (bd 5), .int (nI ln_), .int (nI at_), .int (if iw_ = true then 1 else 0), .ref (bd 6), .ref (bd 7), .ref (bd 8), .ref (bd 9), .ref (bd 10), .ref (bd 11), .ref (bd 12), .ref (bd 13), .ref (bd 14)])), ((bd 1), .inl (cy 0, 130, .inl (nIf f_))), ((bd 8), .inl (cy 0, 16, .inl (nIf (fil (gTo f_ a_) o1_ (f_ 0)))))] → va_S zA zs.heap H locs → ∀ ls : Array Slot, lv_has ls 5 [(0, .ref (bd 0)), (1, .int a_), (2, .int (nI t_))] → W zp l ze r_X8_ordersIn zs zm za zb zme zc H locs 0 0 Q (F0 zm 26 ls []) := by
      intro kf_
      induction kf_ with
      | zero => intro t_ ht hl_ hk_; exact absurd hk_ (Nat.not_lt_zero _)
      | succ kf_ ih26 =>
        intro t_ ht hl_ hk_ H locs hP hD hS ls hl
        refine lv_iload_n hx hb dX8_ordersIn_26 rfl (lv_at hl 2 rfl) ?_
        refine lv_sipush (v := nI 200) hx hb dX8_ordersIn_27 (by decide) ?_
        refine zb_ge (a := t_) (b := 200) (tgt := 100) hx hb dX8_ordersIn_30 (by decide) (by omega) (by omega) (fun c30 => ?_) (fun c30 => ?_)
        · skip
          refine lv_bipush (v := (-6)) hx hb dX8_ordersIn_100 (by decide) ?_
          exact kr _ (fil (gTo f_ a_) o1_ (f_ 0)) _ _ _ _ dX8_ordersIn_102 (vp_nar_int _) ⟨(by unfold qOrdersIn; rw [if_pos hba, ← hxa_, ← hf0]; exact ordI_nev hwa (by omega) (fun j_ hj_ => hl_ j_ (by omega))), trivial⟩ hP hD hS
        · skip
          refine lv_iconst (v := nI 1) hx hb dX8_ordersIn_33 (by decide) ?_
          refine zi_top (v := if chkA (orP xa_ (mP m_) t_) 0 = true then 1 else 0) rfl ?_
          refine lv_istore_n (lv' := [(3, .int (if chkA (orP xa_ (mP m_) t_) 0 = true then 1 else 0)), (0, .ref (bd 0)), (1, .int a_), (2, .int (nI t_))]) hx hb dX8_ordersIn_34 rfl hl (by decide) rfl (fun ls hl => ?_)
          refine lv_iconst (v := nI 0) hx hb dX8_ordersIn_35 (by decide) ?_
          refine lv_istore (lv' := [(4, .int (nI 0)), (3, .int (if chkA (orP xa_ (mP m_) t_) 0 = true then 1 else 0)), (0, .ref (bd 0)), (1, .int a_), (2, .int (nI t_))]) hx hb dX8_ordersIn_36 hl (by decide) rfl (fun ls hl => ?_)
          have L38 : ∀ (kf_ : Nat) (i_ : Nat) (hi : i_ ≤ f_ 0), f_ 0 - i_ < kf_ → ∀ (H : Heap) (locs : List Loc), va_P D vwCl [((bd 0), .inr (5, [.int (nI 0), .ref (bd 1), .ref (bd 2), .int (nI um_), .ref (bd 3), .ref (bd 4), .ref (bd 5), .int (nI ln_), .int (nI at_), .int (if iw_ = true then 1 else 0), .ref (bd 6), .ref (bd 7), .ref (bd 8), .ref (bd 9), .ref (bd 10), .ref (bd 11), .ref (bd 12), .ref (bd 13), .ref (bd 14)])), ((bd 1), .inl (cy 0, 130, .inl (nIf f_))), ((bd 8), .inl (cy 0, 16, .inl (nIf (fil (gTo f_ a_) o1_ (f_ 0)))))] H → va_D zA [((bd 0), .inr (5, [.int (nI 0), .ref (bd 1), .ref (bd 2), .int (nI um_), .ref (bd 3), .ref (bd 4), .ref (bd 5), .int (nI ln_), .int (nI at_), .int (if iw_ = true then 1 else 0), .ref (bd 6), .ref (bd 7), .ref (bd 8), .ref (bd 9), .ref (bd 10), .ref (bd 11), .ref (bd 12), .ref (bd 13), .ref (bd 14)])), ((bd 1), .inl (cy 0, 130, .inl (nIf f_))), ((bd 8), .inl (cy 0, 16, .inl (nIf (fil (gTo f_ a_) o1_ (f_ 0)))))] → va_S zA zs.heap H locs → ∀ ls : Array Slot, lv_has ls 5 [(0, .ref (bd 0)), (1, .int a_), (2, .int (nI t_)), (3, .int (if chkA (orP xa_ (mP m_) t_) i_ = true then 1 else 0)), (4, .int (nI i_))] → W zp l ze r_X8_ordersIn zs zm za zb zme zc H locs 0 0 Q (F0 zm 38 ls []) := by
            intro kf_
            induction kf_ with
            | zero => intro i_ hi hk_; exact absurd hk_ (Nat.not_lt_zero _)
            | succ kf_ ih38 =>
              intro i_ hi hk_ H locs hP hD hS ls hl
              refine lv_iload hx hb dX8_ordersIn_38 (lv_at hl 4 rfl) ?_
              refine lv_aload_n hx hb dX8_ordersIn_40 rfl (lv_at hl 0 rfl) ?_
              refine va_get (D := D) (ci := 5) (v := .ref (bd 1)) (C := RX8) (T := TX8) (N := 19) hx hb hts (fun w h => List.mem_cons_of_mem _ (zinX8 w h)) hown hK.1 hP 0 rfl rfl 1 (by decide) (hts _ (List.mem_cons_of_mem _ zw_74)) (fun _ h9 => h9) rfl dX8_ordersIn_41 ?_
              refine lv_iconst (v := nI 0) hx hb dX8_ordersIn_44 (by decide) ?_
              refine zi_iald (v := nI (f_ 0)) hx hb hK hP 1 rfl (by omega) (by omega) rfl dX8_ordersIn_45 ?_
              refine zb_ge (a := i_) (b := f_ 0) (tgt := 88) hx hb dX8_ordersIn_46 (by decide) (by omega) (by omega) (fun c46 => ?_) (fun c46 => ?_)
              · skip
                have ei_ : i_ = f_ 0 := by omega
                rw [ei_] at hl
                have hio := orP_iff (x := xa_) (P := mP m_) (t := t_) hwa hwP2 (by omega) (by omega)
                refine lv_iload_n hx hb dX8_ordersIn_88 rfl (lv_at hl 3 rfl) ?_
                refine zq_eq (tgt := 94) hx hb dX8_ordersIn_89 (by decide) (fun c89 => ?_) (fun c89 => ?_)
                · skip
                  refine lv_iinc (v := nI (t_ + 1)) (lv' := [(2, .int (nI (t_ + 1))), (0, .ref (bd 0)), (1, .int a_), (3, .int (if chkA (orP xa_ (mP m_) t_) (f_ 0) = true then 1 else 0)), (4, .int (nI (f_ 0)))]) hx hb dX8_ordersIn_94 hl (k := 2) rfl (nI_1 _) (by decide) rfl (fun ls hl => ?_)
                  refine lv_goto (tgt := 26) hx hb dX8_ordersIn_97 (by decide) ?_
                  exact ih26 (t_ + 1) (by omega) (fun j_ hj_ => by rcases Nat.lt_or_ge j_ t_ with q_ | q_; exact hl_ j_ q_; rw [show j_ = t_ by omega]; exact fun e_ => c89 (hio.mpr e_)) (by omega) _ _ hP hD hS _ (lv_sub hl [1, 2, 0] rfl)
                · skip
                  refine lv_iload_n hx hb dX8_ordersIn_92 rfl (lv_at hl 2 rfl) ?_
                  exact kr _ (fil (gTo f_ a_) o1_ (f_ 0)) _ _ _ _ dX8_ordersIn_93 (vp_nar_int _) ⟨(by unfold qOrdersIn; rw [if_pos hba, ← hxa_, ← hf0]; exact ordI_mod hwa (by omega) (hio.mp c89) hl_), trivial⟩ hP hD hS
              · skip
                refine lv_iload_n hx hb dX8_ordersIn_49 rfl (lv_at hl 3 rfl) ?_
                refine zq_eq (tgt := 80) hx hb dX8_ordersIn_50 (by decide) (fun c50 => ?_) (fun c50 => ?_)
                · skip
                  refine lv_iconst (v := nI 0) hx hb dX8_ordersIn_80 (by decide) ?_
                  refine zi_top (v := if chkA (orP xa_ (mP m_) t_) (i_ + 1) = true then 1 else 0) (chkA_0a c50) ?_
                  refine lv_istore_n (lv' := [(3, .int (if chkA (orP xa_ (mP m_) t_) (i_ + 1) = true then 1 else 0)), (0, .ref (bd 0)), (1, .int a_), (2, .int (nI t_)), (4, .int (nI i_))]) hx hb dX8_ordersIn_81 rfl hl (by decide) rfl (fun ls hl => ?_)
                  refine lv_iinc (v := nI (i_ + 1)) (lv' := [(4, .int (nI (i_ + 1))), (3, .int (if chkA (orP xa_ (mP m_) t_) (i_ + 1) = true then 1 else 0)), (0, .ref (bd 0)), (1, .int a_), (2, .int (nI t_))]) hx hb dX8_ordersIn_82 hl (k := 4) rfl (nI_1 _) (by decide) rfl (fun ls hl => ?_)
                  refine lv_goto (tgt := 38) hx hb dX8_ordersIn_85 (by decide) ?_
                  exact ih38 (i_ + 1) (by omega) (by omega) _ _ hP hD hS _ (lv_sub hl [2, 3, 4, 1, 0] rfl)
                · skip
                  refine lv_aload_n hx hb dX8_ordersIn_53 rfl (lv_at hl 0 rfl) ?_
                  refine lv_aload_n hx hb dX8_ordersIn_54 rfl (lv_at hl 0 rfl) ?_
                  refine va_get (D := D) (ci := 5) (v := .ref (bd 8)) (C := RX8) (T := TX8) (N := 19) hx hb hts (fun w h => List.mem_cons_of_mem _ (zinX8 w h)) hown hK.1 hP 0 rfl rfl 12 (by decide) (hts _ (List.mem_cons_of_mem _ zw_81)) (fun _ h9 => h9) rfl dX8_ordersIn_55 ?_
                  refine lv_iload_n hx hb dX8_ordersIn_58 rfl (lv_at hl 2 rfl) ?_
                  refine lv_iload hx hb dX8_ordersIn_59 (lv_at hl 4 rfl) ?_
                  refine zcRi (As := [.ref (bd 8), .int (nI t_), .int (nI i_)]) (rest := []) ⟨hx, hb, hml, hown, hts⟩ (c_X8_powered l D cy bd um_ ln_ at_ iw_ f_ (bd 8) (fil (gTo f_ a_) o1_ (f_ 0)) xa_ (nI t_) i_ (by omega) hXa hwa (by rw [nI_toInt (by omega)]; omega) (by omega)) (cwV 3 hts (zG_V zw_293 zw_294 zw_295 zw_5 zw_296) rfl rfl rfl zd_X8_powered ⟨Nat.le_of_ble_eq_true rfl, Nat.le_of_ble_eq_true rfl⟩) hK hP [0, 1, 2] rfl rfl rfl rfl rfl hl.1 rfl (Nat.le_of_ble_eq_true rfl) dX8_ordersIn_61 ⟨Nat.zero_le _, Nat.zero_le _⟩ (fun r61 h61 => ?_)
                  subst h61
                  have hp61 := pw_lt xa_ (nI t_).toInt (show i_ < 16 by omega)
                  have hf61 := fr_lt (mP m_) i_
                  refine lv_aload_n hx hb dX8_ordersIn_64 rfl (lv_at hl 0 rfl) ?_
                  refine va_get (D := D) (ci := 5) (v := .ref (bd 1)) (C := RX8) (T := TX8) (N := 19) hx hb hts (fun w h => List.mem_cons_of_mem _ (zinX8 w h)) hown hK.1 hP 0 rfl rfl 1 (by decide) (hts _ (List.mem_cons_of_mem _ zw_74)) (fun _ h9 => h9) rfl dX8_ordersIn_65 ?_
                  refine lv_iconst (v := nI 2) hx hb dX8_ordersIn_68 (by decide) ?_
                  refine lv_iload hx hb dX8_ordersIn_69 (lv_at hl 4 rfl) ?_
                  refine zi_add (v := nI (2 + i_)) hx hb dX8_ordersIn_71 (nI_add _ _) ?_
                  refine zi_iald (v := nI (fr (mP m_) i_)) hx hb hK hP 1 rfl (by omega) (by omega) (congrArg nI (hR.2.2.1 i_ (show i_ < mN m_ by omega))) dX8_ordersIn_72 ?_
                  refine zb_ne (a := pw xa_ (nI t_).toInt i_) (b := fr (mP m_) i_) (tgt := 80) hx hb dX8_ordersIn_73 (by decide) (by omega) (by omega) (fun c73 => ?_) (fun c73 => ?_)
                  · skip
                    refine lv_iconst (v := nI 0) hx hb dX8_ordersIn_80 (by decide) ?_
                    refine zi_top (v := if chkA (orP xa_ (mP m_) t_) (i_ + 1) = true then 1 else 0) (chkA_0b (by unfold orP; simp [c73])) ?_
                    refine lv_istore_n (lv' := [(3, .int (if chkA (orP xa_ (mP m_) t_) (i_ + 1) = true then 1 else 0)), (0, .ref (bd 0)), (1, .int a_), (2, .int (nI t_)), (4, .int (nI i_))]) hx hb dX8_ordersIn_81 rfl hl (by decide) rfl (fun ls hl => ?_)
                    refine lv_iinc (v := nI (i_ + 1)) (lv' := [(4, .int (nI (i_ + 1))), (3, .int (if chkA (orP xa_ (mP m_) t_) (i_ + 1) = true then 1 else 0)), (0, .ref (bd 0)), (1, .int a_), (2, .int (nI t_))]) hx hb dX8_ordersIn_82 hl (k := 4) rfl (nI_1 _) (by decide) rfl (fun ls hl => ?_)
                    refine lv_goto (tgt := 38) hx hb dX8_ordersIn_85 (by decide) ?_
                    exact ih38 (i_ + 1) (by omega) (by omega) _ _ hP hD hS _ (lv_sub hl [2, 3, 4, 1, 0] rfl)
                  · skip
                    refine lv_iconst (v := nI 1) hx hb dX8_ordersIn_76 (by decide) ?_
                    refine lv_goto (tgt := 81) hx hb dX8_ordersIn_77 (by decide) ?_
                    refine zi_top (v := if chkA (orP xa_ (mP m_) t_) (i_ + 1) = true then 1 else 0) (chkA_1 c50 (by unfold orP; simp [c73])) ?_
                    refine lv_istore_n (lv' := [(3, .int (if chkA (orP xa_ (mP m_) t_) (i_ + 1) = true then 1 else 0)), (0, .ref (bd 0)), (1, .int a_), (2, .int (nI t_)), (4, .int (nI i_))]) hx hb dX8_ordersIn_81 rfl hl (by decide) rfl (fun ls hl => ?_)
                    refine lv_iinc (v := nI (i_ + 1)) (lv' := [(4, .int (nI (i_ + 1))), (3, .int (if chkA (orP xa_ (mP m_) t_) (i_ + 1) = true then 1 else 0)), (0, .ref (bd 0)), (1, .int a_), (2, .int (nI t_))]) hx hb dX8_ordersIn_82 hl (k := 4) rfl (nI_1 _) (by decide) rfl (fun ls hl => ?_)
                    refine lv_goto (tgt := 38) hx hb dX8_ordersIn_85 (by decide) ?_
                    exact ih38 (i_ + 1) (by omega) (by omega) _ _ hP hD hS _ (lv_sub hl [2, 3, 4, 1, 0] rfl)
          exact L38 (f_ 0 - 0 + 1) 0 (Nat.zero_le _) (Nat.lt_succ_self _) _ _ hP hD hS _ (lv_sub hl [2, 3, 4, 1, 0] rfl)
    exact L26 (200 - 0 + 1) 0 (Nat.zero_le _) (fun j_ hj_ => absurd hj_ (Nat.not_lt_zero _)) (Nat.lt_succ_self _) _ _ hP hD hS _ (lv_sub hl [1, 2, 0] rfl)
  · skip
    refine lv_iconst (v := (-1)) hx hb dX8_ordersIn_13 (by decide) ?_
    exact kr _ o1_ _ _ _ _ dX8_ordersIn_14 (vp_nar_int _) ⟨(by unfold qOrdersIn; rw [if_neg (fun q_ => c10 (by have := bM_iff.mp q_; omega))]), trivial⟩ hP hD hS
abbrev w_X8_laysStep : List Cond := Cond.code yX8_laysStep cX8_laysStep 2 none :: zAll
abbrev r_X8_laysStep : Room := { frames := 1, cells := 0, slots := 0, locals := 25 }
theorem zd_X8_laysStep : yX8_laysStep.cls = RX8 ∧ yX8_laysStep.cls ≠ "java/lang/invoke/MethodHandle" ∧ yX8_laysStep.cls ≠ "java/lang/invoke/VarHandle" ∧ (parseMethodDescriptor yX8_laysStep.desc).map (fun d => d.parameters.length) = some 1 := by decide +kernel
set_option maxHeartbeats 4000000 in
set_option maxRecDepth 100000 in
theorem c_X8_laysStep (l : Launch) (D : va_G) (cy : Nat → ClassId) (sz : Nat) (bd : Nat → Nat) (um_ : Nat) (ln_ : Nat) (at_ : Nat) (iw_ : Bool) (f_ : Nat → Nat) (o1_ : Nat → Nat) (t_ : Nat) (hN_ : f_ 0 ≤ 16) (h2_ : 2 ≤ f_ 0) (ht4 : t_ < 4) : zWv l yX8_laysStep w_X8_laysStep r_X8_laysStep D cy [((bd 0), .inr (5, [.int (nI 0), .ref (bd 1), .ref (bd 2), .int (nI um_), .ref (bd 3), .ref (bd 4), .ref (bd 5), .int (nI ln_), .int (nI at_), .int (if iw_ = true then 1 else 0), .ref (bd 6), .ref (bd 7), .ref (bd 8), .ref (bd 9), .ref (bd 10), .ref (bd 11), .ref (bd 12), .ref (bd 13), .ref (bd 14)])), ((bd 1), .inl (cy 0, 130, .inl (nIf f_))), ((bd 8), .inl (cy 0, 16, .inl (nIf o1_)))] sz [.ref (bd 0), .int (nI t_)] (fun u : (Nat → Nat) => ∀ z_, z_ < f_ 0 → u z_ = stepF t_ (f_ 0) z_) (fun u : (Nat → Nat) => ([((bd 0), .inr (5, [.int (nI 0), .ref (bd 1), .ref (bd 2), .int (nI um_), .ref (bd 3), .ref (bd 4), .ref (bd 5), .int (nI ln_), .int (nI at_), .int (if iw_ = true then 1 else 0), .ref (bd 6), .ref (bd 7), .ref (bd 8), .ref (bd 9), .ref (bd 10), .ref (bd 11), .ref (bd 12), .ref (bd 13), .ref (bd 14)])), ((bd 1), .inl (cy 0, 130, .inl (nIf f_))), ((bd 8), .inl (cy 0, 16, .inl (nIf u)))] : va_W)) 0 0 := by
  refine zOfV (cc := cX8_laysStep) (maxL := 2) (by decide) rfl (Nat.le_of_ble_eq_true rfl) ?_
  intro zp ze zs zm za zb zme zc hx hb hml hts hown hP hK zA hD hA Q kr ls hl hin
  have hS : va_S zA zs.heap zs.heap [] := va_S.rf
  have hown : zs.vm.findClass RX8 = some zm.cls := hown
  have hl : lv_has ls 2 [(0, .ref (bd 0)), (1, .int (nI t_))] := hl
  refine lv_iload_n hx hb dX8_laysStep_0 rfl (lv_at hl 1 rfl) ?_
  have hsw1 : (nI t_).toInt = ((t_ : Nat) : Int) := (nI_toInt (by omega))
  rcases (show ((t_ : Nat) : Int) = 0 ∨ ((t_ : Nat) : Int) = 1 ∨ ((t_ : Nat) : Int) = 2 ∨ (((t_ : Nat) : Int) < 0 ∨ 2 < ((t_ : Nat) : Int)) by omega) with c1 | c1 | c1 | c1
  · refine lv_tableIn (tgt := 28) (off := 27) hx hb dX8_laysStep_1 (by rw [hsw1, c1]; decide) (by rw [hsw1, c1]; decide) (by rw [hsw1, c1]; rfl) (by decide) ?_
    refine lv_aload_n hx hb dX8_laysStep_28 rfl (lv_at hl 0 rfl) ?_
    refine lv_aload_n hx hb dX8_laysStep_29 rfl (lv_at hl 0 rfl) ?_
    refine va_get (D := D) (ci := 5) (v := .ref (bd 8)) (C := RX8) (T := TX8) (N := 19) hx hb hts (fun w h => List.mem_cons_of_mem _ (zinX8 w h)) hown hK.1 hP 0 rfl rfl 12 (by decide) (hts _ (List.mem_cons_of_mem _ zw_81)) (fun _ h9 => h9) rfl dX8_laysStep_30 ?_
    refine lv_iconst (v := nI 1) hx hb dX8_laysStep_33 (by decide) ?_
    refine zcWv (As := [.ref (bd 8), .int (nI 1)]) (rest := []) (wr := []) ⟨hx, hb, hml, hown, hts⟩ (c_X8_laysCut l D cy zs.heap.size bd um_ ln_ at_ iw_ f_ (bd 8) o1_ 1 (by omega) (by omega)) (cwV 2 hts (zG_V zw_357 zw_358 zw_359 zw_5 zw_360) rfl rfl rfl zd_X8_laysCut ⟨Nat.le_of_ble_eq_true rfl, Nat.le_of_ble_eq_true rfl⟩) hK hP hD hS hA [0, 1, 2] [] [0, 1, 2] rfl (by decide) rfl (by decide) (by decide) (w2 := (fun u_ : Unit => ([((bd 0), .inr (5, [.int (nI 0), .ref (bd 1), .ref (bd 2), .int (nI um_), .ref (bd 3), .ref (bd 4), .ref (bd 5), .int (nI ln_), .int (nI at_), .int (if iw_ = true then 1 else 0), .ref (bd 6), .ref (bd 7), .ref (bd 8), .ref (bd 9), .ref (bd 10), .ref (bd 11), .ref (bd 12), .ref (bd 13), .ref (bd 14)])), ((bd 1), .inl (cy 0, 130, .inl (nIf f_))), ((bd 8), .inl (cy 0, 16, .inl (nIf (fil (cutF 1 (f_ 0)) o1_ (f_ 0)))))] : va_W))) (fun _ => rfl) (by decide) rfl rfl rfl rfl hl.1 rfl (Nat.le_of_ble_eq_true rfl) dX8_laysStep_34 ⟨Nat.zero_le _, Nat.zero_le _⟩ (fun  u34 H locs h34 hP hD hS => ?_)
    have h34 : True := h34
    have hP : va_P D vwCl [((bd 0), .inr (5, [.int (nI 0), .ref (bd 1), .ref (bd 2), .int (nI um_), .ref (bd 3), .ref (bd 4), .ref (bd 5), .int (nI ln_), .int (nI at_), .int (if iw_ = true then 1 else 0), .ref (bd 6), .ref (bd 7), .ref (bd 8), .ref (bd 9), .ref (bd 10), .ref (bd 11), .ref (bd 12), .ref (bd 13), .ref (bd 14)])), ((bd 1), .inl (cy 0, 130, .inl (nIf f_))), ((bd 8), .inl (cy 0, 16, .inl (nIf (fil (cutF 1 (f_ 0)) o1_ (f_ 0)))))] H := hP
    have hD : va_D zA [((bd 0), .inr (5, [.int (nI 0), .ref (bd 1), .ref (bd 2), .int (nI um_), .ref (bd 3), .ref (bd 4), .ref (bd 5), .int (nI ln_), .int (nI at_), .int (if iw_ = true then 1 else 0), .ref (bd 6), .ref (bd 7), .ref (bd 8), .ref (bd 9), .ref (bd 10), .ref (bd 11), .ref (bd 12), .ref (bd 13), .ref (bd 14)])), ((bd 1), .inl (cy 0, 130, .inl (nIf f_))), ((bd 8), .inl (cy 0, 16, .inl (nIf (fil (cutF 1 (f_ 0)) o1_ (f_ 0)))))] := hD
    refine lv_goto (tgt := 72) hx hb dX8_laysStep_37 (by decide) ?_
    exact kr (fil (cutF 1 (f_ 0)) o1_ (f_ 0)) _ _ _ _ dX8_laysStep_72 (fun z_ hz_ => (fil_in hz_).trans (by rw [show t_ = 0 by omega]; rfl)) hP hD hS
  · refine lv_tableIn (tgt := 40) (off := 39) hx hb dX8_laysStep_1 (by rw [hsw1, c1]; decide) (by rw [hsw1, c1]; decide) (by rw [hsw1, c1]; rfl) (by decide) ?_
    refine lv_aload_n hx hb dX8_laysStep_40 rfl (lv_at hl 0 rfl) ?_
    refine lv_aload_n hx hb dX8_laysStep_41 rfl (lv_at hl 0 rfl) ?_
    refine va_get (D := D) (ci := 5) (v := .ref (bd 8)) (C := RX8) (T := TX8) (N := 19) hx hb hts (fun w h => List.mem_cons_of_mem _ (zinX8 w h)) hown hK.1 hP 0 rfl rfl 12 (by decide) (hts _ (List.mem_cons_of_mem _ zw_81)) (fun _ h9 => h9) rfl dX8_laysStep_42 ?_
    refine lv_iconst (v := nI 0) hx hb dX8_laysStep_45 (by decide) ?_
    refine zcWv (As := [.ref (bd 8), .int (nI 0)]) (rest := []) (wr := []) ⟨hx, hb, hml, hown, hts⟩ (c_X8_laysRiffle l D cy zs.heap.size bd um_ ln_ at_ iw_ f_ (bd 8) o1_ 0 (by omega) (by omega)) (cwV 2 hts (zG_V zw_378 zw_379 zw_380 zw_5 zw_381) rfl rfl rfl zd_X8_laysRiffle ⟨Nat.le_of_ble_eq_true rfl, Nat.le_of_ble_eq_true rfl⟩) hK hP hD hS hA [0, 1, 2] [] [0, 1, 2] rfl (by decide) rfl (by decide) (by decide) (w2 := (fun u_ : Unit => ([((bd 0), .inr (5, [.int (nI 0), .ref (bd 1), .ref (bd 2), .int (nI um_), .ref (bd 3), .ref (bd 4), .ref (bd 5), .int (nI ln_), .int (nI at_), .int (if iw_ = true then 1 else 0), .ref (bd 6), .ref (bd 7), .ref (bd 8), .ref (bd 9), .ref (bd 10), .ref (bd 11), .ref (bd 12), .ref (bd 13), .ref (bd 14)])), ((bd 1), .inl (cy 0, 130, .inl (nIf f_))), ((bd 8), .inl (cy 0, 16, .inl (nIf (fil (rifF 0 (f_ 0)) o1_ (f_ 0)))))] : va_W))) (fun _ => rfl) (by decide) rfl rfl rfl rfl hl.1 rfl (Nat.le_of_ble_eq_true rfl) dX8_laysStep_46 ⟨Nat.zero_le _, Nat.zero_le _⟩ (fun  u46 H locs h46 hP hD hS => ?_)
    have h46 : True := h46
    have hP : va_P D vwCl [((bd 0), .inr (5, [.int (nI 0), .ref (bd 1), .ref (bd 2), .int (nI um_), .ref (bd 3), .ref (bd 4), .ref (bd 5), .int (nI ln_), .int (nI at_), .int (if iw_ = true then 1 else 0), .ref (bd 6), .ref (bd 7), .ref (bd 8), .ref (bd 9), .ref (bd 10), .ref (bd 11), .ref (bd 12), .ref (bd 13), .ref (bd 14)])), ((bd 1), .inl (cy 0, 130, .inl (nIf f_))), ((bd 8), .inl (cy 0, 16, .inl (nIf (fil (rifF 0 (f_ 0)) o1_ (f_ 0)))))] H := hP
    have hD : va_D zA [((bd 0), .inr (5, [.int (nI 0), .ref (bd 1), .ref (bd 2), .int (nI um_), .ref (bd 3), .ref (bd 4), .ref (bd 5), .int (nI ln_), .int (nI at_), .int (if iw_ = true then 1 else 0), .ref (bd 6), .ref (bd 7), .ref (bd 8), .ref (bd 9), .ref (bd 10), .ref (bd 11), .ref (bd 12), .ref (bd 13), .ref (bd 14)])), ((bd 1), .inl (cy 0, 130, .inl (nIf f_))), ((bd 8), .inl (cy 0, 16, .inl (nIf (fil (rifF 0 (f_ 0)) o1_ (f_ 0)))))] := hD
    refine lv_goto (tgt := 72) hx hb dX8_laysStep_49 (by decide) ?_
    exact kr (fil (rifF 0 (f_ 0)) o1_ (f_ 0)) _ _ _ _ dX8_laysStep_72 (fun z_ hz_ => (fil_in hz_).trans (by rw [show t_ = 1 by omega]; rfl)) hP hD hS
  · refine lv_tableIn (tgt := 52) (off := 51) hx hb dX8_laysStep_1 (by rw [hsw1, c1]; decide) (by rw [hsw1, c1]; decide) (by rw [hsw1, c1]; rfl) (by decide) ?_
    refine lv_aload_n hx hb dX8_laysStep_52 rfl (lv_at hl 0 rfl) ?_
    refine lv_aload_n hx hb dX8_laysStep_53 rfl (lv_at hl 0 rfl) ?_
    refine va_get (D := D) (ci := 5) (v := .ref (bd 8)) (C := RX8) (T := TX8) (N := 19) hx hb hts (fun w h => List.mem_cons_of_mem _ (zinX8 w h)) hown hK.1 hP 0 rfl rfl 12 (by decide) (hts _ (List.mem_cons_of_mem _ zw_81)) (fun _ h9 => h9) rfl dX8_laysStep_54 ?_
    refine lv_iconst (v := nI 1) hx hb dX8_laysStep_57 (by decide) ?_
    refine zcWv (As := [.ref (bd 8), .int (nI 1)]) (rest := []) (wr := []) ⟨hx, hb, hml, hown, hts⟩ (c_X8_laysRiffle l D cy zs.heap.size bd um_ ln_ at_ iw_ f_ (bd 8) o1_ 1 (by omega) (by omega)) (cwV 2 hts (zG_V zw_378 zw_379 zw_380 zw_5 zw_381) rfl rfl rfl zd_X8_laysRiffle ⟨Nat.le_of_ble_eq_true rfl, Nat.le_of_ble_eq_true rfl⟩) hK hP hD hS hA [0, 1, 2] [] [0, 1, 2] rfl (by decide) rfl (by decide) (by decide) (w2 := (fun u_ : Unit => ([((bd 0), .inr (5, [.int (nI 0), .ref (bd 1), .ref (bd 2), .int (nI um_), .ref (bd 3), .ref (bd 4), .ref (bd 5), .int (nI ln_), .int (nI at_), .int (if iw_ = true then 1 else 0), .ref (bd 6), .ref (bd 7), .ref (bd 8), .ref (bd 9), .ref (bd 10), .ref (bd 11), .ref (bd 12), .ref (bd 13), .ref (bd 14)])), ((bd 1), .inl (cy 0, 130, .inl (nIf f_))), ((bd 8), .inl (cy 0, 16, .inl (nIf (fil (rifF 1 (f_ 0)) o1_ (f_ 0)))))] : va_W))) (fun _ => rfl) (by decide) rfl rfl rfl rfl hl.1 rfl (Nat.le_of_ble_eq_true rfl) dX8_laysStep_58 ⟨Nat.zero_le _, Nat.zero_le _⟩ (fun  u58 H locs h58 hP hD hS => ?_)
    have h58 : True := h58
    have hP : va_P D vwCl [((bd 0), .inr (5, [.int (nI 0), .ref (bd 1), .ref (bd 2), .int (nI um_), .ref (bd 3), .ref (bd 4), .ref (bd 5), .int (nI ln_), .int (nI at_), .int (if iw_ = true then 1 else 0), .ref (bd 6), .ref (bd 7), .ref (bd 8), .ref (bd 9), .ref (bd 10), .ref (bd 11), .ref (bd 12), .ref (bd 13), .ref (bd 14)])), ((bd 1), .inl (cy 0, 130, .inl (nIf f_))), ((bd 8), .inl (cy 0, 16, .inl (nIf (fil (rifF 1 (f_ 0)) o1_ (f_ 0)))))] H := hP
    have hD : va_D zA [((bd 0), .inr (5, [.int (nI 0), .ref (bd 1), .ref (bd 2), .int (nI um_), .ref (bd 3), .ref (bd 4), .ref (bd 5), .int (nI ln_), .int (nI at_), .int (if iw_ = true then 1 else 0), .ref (bd 6), .ref (bd 7), .ref (bd 8), .ref (bd 9), .ref (bd 10), .ref (bd 11), .ref (bd 12), .ref (bd 13), .ref (bd 14)])), ((bd 1), .inl (cy 0, 130, .inl (nIf f_))), ((bd 8), .inl (cy 0, 16, .inl (nIf (fil (rifF 1 (f_ 0)) o1_ (f_ 0)))))] := hD
    refine lv_goto (tgt := 72) hx hb dX8_laysStep_61 (by decide) ?_
    exact kr (fil (rifF 1 (f_ 0)) o1_ (f_ 0)) _ _ _ _ dX8_laysStep_72 (fun z_ hz_ => (fil_in hz_).trans (by rw [show t_ = 2 by omega]; rfl)) hP hD hS
  · refine lv_tableOut (tgt := 64) hx hb dX8_laysStep_1 (by rw [hsw1]; exact c1) (by decide) ?_
    refine lv_aload_n hx hb dX8_laysStep_64 rfl (lv_at hl 0 rfl) ?_
    refine lv_aload_n hx hb dX8_laysStep_65 rfl (lv_at hl 0 rfl) ?_
    refine va_get (D := D) (ci := 5) (v := .ref (bd 8)) (C := RX8) (T := TX8) (N := 19) hx hb hts (fun w h => List.mem_cons_of_mem _ (zinX8 w h)) hown hK.1 hP 0 rfl rfl 12 (by decide) (hts _ (List.mem_cons_of_mem _ zw_81)) (fun _ h9 => h9) rfl dX8_laysStep_66 ?_
    refine zcWv (As := [.ref (bd 8)]) (rest := []) (wr := []) ⟨hx, hb, hml, hown, hts⟩ (c_X8_laysTurn l D cy zs.heap.size bd um_ ln_ at_ iw_ f_ (bd 8) o1_ (by omega)) (cwV 1 hts (zG_V zw_390 zw_391 zw_392 zw_5 zw_393) rfl rfl rfl zd_X8_laysTurn ⟨Nat.le_of_ble_eq_true rfl, Nat.le_of_ble_eq_true rfl⟩) hK hP hD hS hA [0, 1, 2] [] [0, 1, 2] rfl (by decide) rfl (by decide) (by decide) (w2 := (fun u_ : Unit => ([((bd 0), .inr (5, [.int (nI 0), .ref (bd 1), .ref (bd 2), .int (nI um_), .ref (bd 3), .ref (bd 4), .ref (bd 5), .int (nI ln_), .int (nI at_), .int (if iw_ = true then 1 else 0), .ref (bd 6), .ref (bd 7), .ref (bd 8), .ref (bd 9), .ref (bd 10), .ref (bd 11), .ref (bd 12), .ref (bd 13), .ref (bd 14)])), ((bd 1), .inl (cy 0, 130, .inl (nIf f_))), ((bd 8), .inl (cy 0, 16, .inl (nIf (fil (turF (f_ 0)) o1_ (f_ 0)))))] : va_W))) (fun _ => rfl) (by decide) rfl rfl rfl rfl hl.1 rfl (Nat.le_of_ble_eq_true rfl) dX8_laysStep_69 ⟨Nat.zero_le _, Nat.zero_le _⟩ (fun  u69 H locs h69 hP hD hS => ?_)
    have h69 : True := h69
    have hP : va_P D vwCl [((bd 0), .inr (5, [.int (nI 0), .ref (bd 1), .ref (bd 2), .int (nI um_), .ref (bd 3), .ref (bd 4), .ref (bd 5), .int (nI ln_), .int (nI at_), .int (if iw_ = true then 1 else 0), .ref (bd 6), .ref (bd 7), .ref (bd 8), .ref (bd 9), .ref (bd 10), .ref (bd 11), .ref (bd 12), .ref (bd 13), .ref (bd 14)])), ((bd 1), .inl (cy 0, 130, .inl (nIf f_))), ((bd 8), .inl (cy 0, 16, .inl (nIf (fil (turF (f_ 0)) o1_ (f_ 0)))))] H := hP
    have hD : va_D zA [((bd 0), .inr (5, [.int (nI 0), .ref (bd 1), .ref (bd 2), .int (nI um_), .ref (bd 3), .ref (bd 4), .ref (bd 5), .int (nI ln_), .int (nI at_), .int (if iw_ = true then 1 else 0), .ref (bd 6), .ref (bd 7), .ref (bd 8), .ref (bd 9), .ref (bd 10), .ref (bd 11), .ref (bd 12), .ref (bd 13), .ref (bd 14)])), ((bd 1), .inl (cy 0, 130, .inl (nIf f_))), ((bd 8), .inl (cy 0, 16, .inl (nIf (fil (turF (f_ 0)) o1_ (f_ 0)))))] := hD
    exact kr (fil (turF (f_ 0)) o1_ (f_ 0)) _ _ _ _ dX8_laysStep_72 (fun z_ hz_ => by rw [fil_in hz_]; unfold stepF; rw [if_neg (by omega), if_neg (by omega), if_neg (by omega)]; rfl) hP hD hS
abbrev w_X8_areOrdering : List Cond := Cond.code yX8_areOrdering cX8_areOrdering 5 (some .boolean) :: zAll
abbrev r_X8_areOrdering : Room := { frames := 2, cells := 0, slots := 0, locals := 46 }
theorem zd_X8_areOrdering : yX8_areOrdering.cls = RX8 ∧ yX8_areOrdering.cls ≠ "java/lang/invoke/MethodHandle" ∧ yX8_areOrdering.cls ≠ "java/lang/invoke/VarHandle" ∧ (parseMethodDescriptor yX8_areOrdering.desc).map (fun d => d.parameters.length) = some 2 := by decide +kernel
set_option maxHeartbeats 4000000 in
set_option maxRecDepth 100000 in
theorem c_X8_areOrdering (l : Launch) (D : va_G) (cy : Nat → ClassId) (sz : Nat) (bd : Nat → Nat) (um_ : Nat) (ln_ : Nat) (at_ : Nat) (iw_ : Bool) (f_ : Nat → Nat) (m_ : MT) (o1_ : Nat → Nat) (cc_ : Nat → Nat) (nx_ : Nat → Nat) (s_ : Nat) (w_ : Nat) (hw : TVok m_.1) (hR : RowR m_.1 f_) (hs : s_ ≤ 5) (hww : w_ < 2 ^ 31) : zWi l yX8_areOrdering w_X8_areOrdering r_X8_areOrdering D cy [((bd 0), .inr (5, [.int (nI 0), .ref (bd 1), .ref (bd 2), .int (nI um_), .ref (bd 3), .ref (bd 4), .ref (bd 5), .int (nI ln_), .int (nI at_), .int (if iw_ = true then 1 else 0), .ref (bd 6), .ref (bd 7), .ref (bd 8), .ref (bd 9), .ref (bd 10), .ref (bd 11), .ref (bd 12), .ref (bd 13), .ref (bd 14)])), ((bd 1), .inl (cy 0, 130, .inl (nIf f_))), ((bd 8), .inl (cy 0, 16, .inl (nIf o1_))), ((bd 11), .inl (cy 0, 16, .inl (nIf cc_))), ((bd 12), .inl (cy 0, 16, .inl (nIf nx_)))] sz [.ref (bd 0), .int (nI s_), .int (nI w_)] (fun (r_ : Int32) (u : (Nat → Nat) × (Nat → Nat) × (Nat → Nat)) => r_ = (if ordW (mP m_) (mN m_) s_ w_ = true then 1 else 0) ∧ True) (fun u : (Nat → Nat) × (Nat → Nat) × (Nat → Nat) => ([((bd 0), .inr (5, [.int (nI 0), .ref (bd 1), .ref (bd 2), .int (nI um_), .ref (bd 3), .ref (bd 4), .ref (bd 5), .int (nI ln_), .int (nI at_), .int (if iw_ = true then 1 else 0), .ref (bd 6), .ref (bd 7), .ref (bd 8), .ref (bd 9), .ref (bd 10), .ref (bd 11), .ref (bd 12), .ref (bd 13), .ref (bd 14)])), ((bd 1), .inl (cy 0, 130, .inl (nIf f_))), ((bd 8), .inl (cy 0, 16, .inl (nIf u.1))), ((bd 11), .inl (cy 0, 16, .inl (nIf u.2.1))), ((bd 12), .inl (cy 0, 16, .inl (nIf u.2.2)))] : va_W)) := by
  refine zOfW (cc := cX8_areOrdering) (maxL := 5) (ty := .boolean) (by decide) rfl (Nat.le_of_ble_eq_true rfl) ?_
  intro zp ze zs zm za zb zme zc hx hb hml hts hown hP hK zA hD hA Q kr ls hl
  have hS : va_S zA zs.heap zs.heap [] := va_S.rf
  have hown : zs.vm.findClass RX8 = some zm.cls := hown
  have hl : lv_has ls 5 [(0, .ref (bd 0)), (1, .int (nI s_)), (2, .int (nI w_))] := hl
  have hn2 := ok_2 hw
  have hn16 := ok_n hw
  have hC6 := ok_C hw
  have hwP := ok_P hw
  have hf0 : f_ 0 = mN m_ := hR.1
  have hf1 : f_ 1 = mC m_ := hR.2.1
  have hk0_ : (nI 0).toInt = 0 := rfl
  have hk9_ : (nI 999).toInt = 999 := rfl
  have hk8_ : (-999 : Int32).toInt = -999 := rfl
  have hwP2 : WF (f_ 0) (mP m_) := by rw [hf0]; exact hwP
  have hn8 : f_ 0 ≤ 16 := by omega
  refine lv_iconst (v := nI 0) hx hb dX8_areOrdering_0 (by decide) ?_
  refine lv_istore_n (lv' := [(3, .int (nI 0)), (0, .ref (bd 0)), (1, .int (nI s_)), (2, .int (nI w_))]) hx hb dX8_areOrdering_1 rfl hl (by decide) rfl (fun ls hl => ?_)
  have L2 : ∀ (kf_ : Nat) (i_ : Nat) (cc_ : Nat → Nat) (hi : i_ ≤ f_ 0) (hc_ : ∀ z_, z_ < i_ → cc_ z_ = fr (mP m_) z_), f_ 0 - i_ < kf_ → ∀ (H : Heap) (locs : List Loc), va_P D vwCl [((bd 0), .inr (5, [.int (nI 0), .ref (bd 1), .ref (bd 2), .int (nI um_), .ref (bd 3), .ref (bd 4), .ref (bd 5), .int (nI ln_), .int (nI at_), .int (if iw_ = true then 1 else 0), .ref (bd 6), .ref (bd 7), .ref (bd 8), .ref (bd 9), .ref (bd 10), .ref (bd 11), .ref (bd 12), .ref (bd 13), .ref (bd 14)])), ((bd 1), .inl (cy 0, 130, .inl (nIf f_))), ((bd 8), .inl (cy 0, 16, .inl (nIf o1_))), ((bd 11), .inl (cy 0, 16, .inl (nIf cc_))), ((bd 12), .inl (cy 0, 16, .inl (nIf nx_)))] H → va_D zA [((bd 0), .inr (5, [.int (nI 0), .ref (bd 1), .ref (bd 2), .int (nI um_), .ref (bd 3), .ref (bd 4), .ref (bd 5), .int (nI ln_), .int (nI at_), .int (if iw_ = true then 1 else 0), .ref (bd 6), .ref (bd 7), .ref (bd 8), .ref (bd 9), .ref (bd 10), .ref (bd 11), .ref (bd 12), .ref (bd 13), .ref (bd 14)])), ((bd 1), .inl (cy 0, 130, .inl (nIf f_))), ((bd 8), .inl (cy 0, 16, .inl (nIf o1_))), ((bd 11), .inl (cy 0, 16, .inl (nIf cc_))), ((bd 12), .inl (cy 0, 16, .inl (nIf nx_)))] → va_S zA zs.heap H locs → ∀ ls : Array Slot, lv_has ls 5 [(0, .ref (bd 0)), (1, .int (nI s_)), (2, .int (nI w_)), (3, .int (nI i_))] → W zp l ze r_X8_areOrdering zs zm za zb zme zc H locs 0 0 Q (F0 zm 2 ls []) := by
    intro kf_
    induction kf_ with
    | zero => intro i_ cc_ hi hc_ hk_; exact absurd hk_ (Nat.not_lt_zero _)
    | succ kf_ ih2 =>
      intro i_ cc_ hi hc_ hk_ H locs hP hD hS ls hl
      refine lv_iload_n hx hb dX8_areOrdering_2 rfl (lv_at hl 3 rfl) ?_
      refine lv_aload_n hx hb dX8_areOrdering_3 rfl (lv_at hl 0 rfl) ?_
      refine va_get (D := D) (ci := 5) (v := .ref (bd 1)) (C := RX8) (T := TX8) (N := 19) hx hb hts (fun w h => List.mem_cons_of_mem _ (zinX8 w h)) hown hK.1 hP 0 rfl rfl 1 (by decide) (hts _ (List.mem_cons_of_mem _ zw_74)) (fun _ h9 => h9) rfl dX8_areOrdering_4 ?_
      refine lv_iconst (v := nI 0) hx hb dX8_areOrdering_7 (by decide) ?_
      refine zi_iald (v := nI (f_ 0)) hx hb hK hP 1 rfl (by omega) (by omega) rfl dX8_areOrdering_8 ?_
      refine zb_ge (a := i_) (b := f_ 0) (tgt := 32) hx hb dX8_areOrdering_9 (by decide) (by omega) (by omega) (fun c9 => ?_) (fun c9 => ?_)
      · skip
        refine lv_iload_n hx hb dX8_areOrdering_32 rfl (lv_at hl 1 rfl) ?_
        refine lv_iconst (v := nI 1) hx hb dX8_areOrdering_33 (by decide) ?_
        refine zi_sub (v := nI (s_ - 0) + Int32.ofInt (-1)) hx hb dX8_areOrdering_34 (by rw [Nat.sub_zero]; exact m1_sub s_) ?_
        refine lv_istore_n (lv' := [(3, .int (nI (s_ - 0) + Int32.ofInt (-1))), (0, .ref (bd 0)), (1, .int (nI s_)), (2, .int (nI w_))]) hx hb dX8_areOrdering_35 rfl hl (by decide) rfl (fun ls hl => ?_)
        have L36 : ∀ (kf_ : Nat) (i_ : Nat) (o1_ : Nat → Nat) (cc_ : Nat → Nat) (nx_ : Nat → Nat) (hi : i_ ≤ s_) (hc : ∀ c_, c_ < f_ 0 → cc_ (rnS (f_ 0) s_ w_ i_ (nb (mP m_) c_)) = c_), s_ - i_ < kf_ → ∀ (H : Heap) (locs : List Loc), va_P D vwCl [((bd 0), .inr (5, [.int (nI 0), .ref (bd 1), .ref (bd 2), .int (nI um_), .ref (bd 3), .ref (bd 4), .ref (bd 5), .int (nI ln_), .int (nI at_), .int (if iw_ = true then 1 else 0), .ref (bd 6), .ref (bd 7), .ref (bd 8), .ref (bd 9), .ref (bd 10), .ref (bd 11), .ref (bd 12), .ref (bd 13), .ref (bd 14)])), ((bd 1), .inl (cy 0, 130, .inl (nIf f_))), ((bd 8), .inl (cy 0, 16, .inl (nIf o1_))), ((bd 11), .inl (cy 0, 16, .inl (nIf cc_))), ((bd 12), .inl (cy 0, 16, .inl (nIf nx_)))] H → va_D zA [((bd 0), .inr (5, [.int (nI 0), .ref (bd 1), .ref (bd 2), .int (nI um_), .ref (bd 3), .ref (bd 4), .ref (bd 5), .int (nI ln_), .int (nI at_), .int (if iw_ = true then 1 else 0), .ref (bd 6), .ref (bd 7), .ref (bd 8), .ref (bd 9), .ref (bd 10), .ref (bd 11), .ref (bd 12), .ref (bd 13), .ref (bd 14)])), ((bd 1), .inl (cy 0, 130, .inl (nIf f_))), ((bd 8), .inl (cy 0, 16, .inl (nIf o1_))), ((bd 11), .inl (cy 0, 16, .inl (nIf cc_))), ((bd 12), .inl (cy 0, 16, .inl (nIf nx_)))] → va_S zA zs.heap H locs → ∀ ls : Array Slot, lv_has ls 5 [(0, .ref (bd 0)), (1, .int (nI s_)), (2, .int (nI w_)), (3, .int (nI (s_ - i_) + Int32.ofInt (-1)))] → W zp l ze r_X8_areOrdering zs zm za zb zme zc H locs 0 0 Q (F0 zm 36 ls []) := by
          intro kf_
          induction kf_ with
          | zero => intro i_ o1_ cc_ nx_ hi hc hk_; exact absurd hk_ (Nat.not_lt_zero _)
          | succ kf_ ih36 =>
            intro i_ o1_ cc_ nx_ hi hc hk_ H locs hP hD hS ls hl
            refine lv_iload_n hx hb dX8_areOrdering_36 rfl (lv_at hl 3 rfl) ?_
            refine zt0_lt (a := ((s_ - i_ : Nat) : Int) - 1) (tgt := 130) hx hb dX8_areOrdering_37 (by decide) (m1_int (by omega)) (fun c37 => ?_) (fun c37 => ?_)
            · skip
              have es_ : i_ = s_ := by omega
              rw [es_] at hc
              have hcb := fun z_ hz_ => way_cb (p := z_) hwP2 hn8 hc hz_
              have hck := way_chk hwP2 hn8 hc
              refine lv_iconst (v := nI 1) hx hb dX8_areOrdering_130 (by decide) ?_
              refine zi_top (v := if chkA (cidF cc_) 0 = true then 1 else 0) rfl ?_
              refine lv_istore_n (lv' := [(3, .int (if chkA (cidF cc_) 0 = true then 1 else 0)), (0, .ref (bd 0)), (1, .int (nI s_)), (2, .int (nI w_))]) hx hb dX8_areOrdering_131 rfl hl (by decide) rfl (fun ls hl => ?_)
              refine lv_iconst (v := nI 0) hx hb dX8_areOrdering_132 (by decide) ?_
              refine lv_istore (lv' := [(4, .int (nI 0)), (3, .int (if chkA (cidF cc_) 0 = true then 1 else 0)), (0, .ref (bd 0)), (1, .int (nI s_)), (2, .int (nI w_))]) hx hb dX8_areOrdering_133 hl (by decide) rfl (fun ls hl => ?_)
              have L135 : ∀ (kf_ : Nat) (j_ : Nat) (hj : j_ ≤ f_ 0), f_ 0 - j_ < kf_ → ∀ (H : Heap) (locs : List Loc), va_P D vwCl [((bd 0), .inr (5, [.int (nI 0), .ref (bd 1), .ref (bd 2), .int (nI um_), .ref (bd 3), .ref (bd 4), .ref (bd 5), .int (nI ln_), .int (nI at_), .int (if iw_ = true then 1 else 0), .ref (bd 6), .ref (bd 7), .ref (bd 8), .ref (bd 9), .ref (bd 10), .ref (bd 11), .ref (bd 12), .ref (bd 13), .ref (bd 14)])), ((bd 1), .inl (cy 0, 130, .inl (nIf f_))), ((bd 8), .inl (cy 0, 16, .inl (nIf o1_))), ((bd 11), .inl (cy 0, 16, .inl (nIf cc_))), ((bd 12), .inl (cy 0, 16, .inl (nIf nx_)))] H → va_D zA [((bd 0), .inr (5, [.int (nI 0), .ref (bd 1), .ref (bd 2), .int (nI um_), .ref (bd 3), .ref (bd 4), .ref (bd 5), .int (nI ln_), .int (nI at_), .int (if iw_ = true then 1 else 0), .ref (bd 6), .ref (bd 7), .ref (bd 8), .ref (bd 9), .ref (bd 10), .ref (bd 11), .ref (bd 12), .ref (bd 13), .ref (bd 14)])), ((bd 1), .inl (cy 0, 130, .inl (nIf f_))), ((bd 8), .inl (cy 0, 16, .inl (nIf o1_))), ((bd 11), .inl (cy 0, 16, .inl (nIf cc_))), ((bd 12), .inl (cy 0, 16, .inl (nIf nx_)))] → va_S zA zs.heap H locs → ∀ ls : Array Slot, lv_has ls 5 [(0, .ref (bd 0)), (1, .int (nI s_)), (2, .int (nI w_)), (3, .int (if chkA (cidF cc_) j_ = true then 1 else 0)), (4, .int (nI j_))] → W zp l ze r_X8_areOrdering zs zm za zb zme zc H locs 0 0 Q (F0 zm 135 ls []) := by
                intro kf_
                induction kf_ with
                | zero => intro j_ hj hk_; exact absurd hk_ (Nat.not_lt_zero _)
                | succ kf_ ih135 =>
                  intro j_ hj hk_ H locs hP hD hS ls hl
                  refine lv_iload hx hb dX8_areOrdering_135 (lv_at hl 4 rfl) ?_
                  refine lv_aload_n hx hb dX8_areOrdering_137 rfl (lv_at hl 0 rfl) ?_
                  refine va_get (D := D) (ci := 5) (v := .ref (bd 1)) (C := RX8) (T := TX8) (N := 19) hx hb hts (fun w h => List.mem_cons_of_mem _ (zinX8 w h)) hown hK.1 hP 0 rfl rfl 1 (by decide) (hts _ (List.mem_cons_of_mem _ zw_74)) (fun _ h9 => h9) rfl dX8_areOrdering_138 ?_
                  refine lv_iconst (v := nI 0) hx hb dX8_areOrdering_141 (by decide) ?_
                  refine zi_iald (v := nI (f_ 0)) hx hb hK hP 1 rfl (by omega) (by omega) rfl dX8_areOrdering_142 ?_
                  refine zb_ge (a := j_) (b := f_ 0) (tgt := 174) hx hb dX8_areOrdering_143 (by decide) (by omega) (by omega) (fun c143 => ?_) (fun c143 => ?_)
                  · skip
                    refine lv_iload_n hx hb dX8_areOrdering_174 rfl (lv_at hl 3 rfl) ?_
                    exact kr _ (o1_, cc_, nx_) _ _ _ _ dX8_areOrdering_175 (zz_narb _) ⟨by rw [show j_ = f_ 0 by omega, ← hf0]; exact zz_ifc hck, trivial⟩ hP hD hS
                  · skip
                    refine lv_iload_n hx hb dX8_areOrdering_146 rfl (lv_at hl 3 rfl) ?_
                    refine zq_eq (tgt := 166) hx hb dX8_areOrdering_147 (by decide) (fun c147 => ?_) (fun c147 => ?_)
                    · skip
                      refine lv_iconst (v := nI 0) hx hb dX8_areOrdering_166 (by decide) ?_
                      refine zi_top (v := if chkA (cidF cc_) (j_ + 1) = true then 1 else 0) (chkA_0a c147) ?_
                      refine lv_istore_n (lv' := [(3, .int (if chkA (cidF cc_) (j_ + 1) = true then 1 else 0)), (0, .ref (bd 0)), (1, .int (nI s_)), (2, .int (nI w_)), (4, .int (nI j_))]) hx hb dX8_areOrdering_167 rfl hl (by decide) rfl (fun ls hl => ?_)
                      refine lv_iinc (v := nI (j_ + 1)) (lv' := [(4, .int (nI (j_ + 1))), (3, .int (if chkA (cidF cc_) (j_ + 1) = true then 1 else 0)), (0, .ref (bd 0)), (1, .int (nI s_)), (2, .int (nI w_))]) hx hb dX8_areOrdering_168 hl (k := 4) rfl (nI_1 _) (by decide) rfl (fun ls hl => ?_)
                      refine lv_goto (tgt := 135) hx hb dX8_areOrdering_171 (by decide) ?_
                      exact ih135 (j_ + 1) (by omega) (by omega) _ _ hP hD hS _ (lv_sub hl [2, 3, 4, 1, 0] rfl)
                    · skip
                      have hb150 := hcb j_ (by omega)
                      refine lv_aload_n hx hb dX8_areOrdering_150 rfl (lv_at hl 0 rfl) ?_
                      refine va_get (D := D) (ci := 5) (v := .ref (bd 11)) (C := RX8) (T := TX8) (N := 19) hx hb hts (fun w h => List.mem_cons_of_mem _ (zinX8 w h)) hown hK.1 hP 0 rfl rfl 15 (by decide) (hts _ (List.mem_cons_of_mem _ zw_84)) (fun _ h9 => h9) rfl dX8_areOrdering_151 ?_
                      refine lv_iload hx hb dX8_areOrdering_154 (lv_at hl 4 rfl) ?_
                      refine zi_iald (v := nI (cc_ j_)) hx hb hK hP 3 rfl (by omega) (by omega) rfl dX8_areOrdering_156 ?_
                      refine lv_iload hx hb dX8_areOrdering_157 (lv_at hl 4 rfl) ?_
                      refine zb_ne (a := cc_ j_) (b := j_) (tgt := 166) hx hb dX8_areOrdering_159 (by decide) (by omega) (by omega) (fun c159 => ?_) (fun c159 => ?_)
                      · skip
                        refine lv_iconst (v := nI 0) hx hb dX8_areOrdering_166 (by decide) ?_
                        refine zi_top (v := if chkA (cidF cc_) (j_ + 1) = true then 1 else 0) (chkA_0b (by unfold cidF; simp [c159])) ?_
                        refine lv_istore_n (lv' := [(3, .int (if chkA (cidF cc_) (j_ + 1) = true then 1 else 0)), (0, .ref (bd 0)), (1, .int (nI s_)), (2, .int (nI w_)), (4, .int (nI j_))]) hx hb dX8_areOrdering_167 rfl hl (by decide) rfl (fun ls hl => ?_)
                        refine lv_iinc (v := nI (j_ + 1)) (lv' := [(4, .int (nI (j_ + 1))), (3, .int (if chkA (cidF cc_) (j_ + 1) = true then 1 else 0)), (0, .ref (bd 0)), (1, .int (nI s_)), (2, .int (nI w_))]) hx hb dX8_areOrdering_168 hl (k := 4) rfl (nI_1 _) (by decide) rfl (fun ls hl => ?_)
                        refine lv_goto (tgt := 135) hx hb dX8_areOrdering_171 (by decide) ?_
                        exact ih135 (j_ + 1) (by omega) (by omega) _ _ hP hD hS _ (lv_sub hl [2, 3, 4, 1, 0] rfl)
                      · skip
                        refine lv_iconst (v := nI 1) hx hb dX8_areOrdering_162 (by decide) ?_
                        refine lv_goto (tgt := 167) hx hb dX8_areOrdering_163 (by decide) ?_
                        refine zi_top (v := if chkA (cidF cc_) (j_ + 1) = true then 1 else 0) (chkA_1 c147 (by unfold cidF; simp [c159])) ?_
                        refine lv_istore_n (lv' := [(3, .int (if chkA (cidF cc_) (j_ + 1) = true then 1 else 0)), (0, .ref (bd 0)), (1, .int (nI s_)), (2, .int (nI w_)), (4, .int (nI j_))]) hx hb dX8_areOrdering_167 rfl hl (by decide) rfl (fun ls hl => ?_)
                        refine lv_iinc (v := nI (j_ + 1)) (lv' := [(4, .int (nI (j_ + 1))), (3, .int (if chkA (cidF cc_) (j_ + 1) = true then 1 else 0)), (0, .ref (bd 0)), (1, .int (nI s_)), (2, .int (nI w_))]) hx hb dX8_areOrdering_168 hl (k := 4) rfl (nI_1 _) (by decide) rfl (fun ls hl => ?_)
                        refine lv_goto (tgt := 135) hx hb dX8_areOrdering_171 (by decide) ?_
                        exact ih135 (j_ + 1) (by omega) (by omega) _ _ hP hD hS _ (lv_sub hl [2, 3, 4, 1, 0] rfl)
              exact L135 (f_ 0 - 0 + 1) 0 (Nat.zero_le _) (Nat.lt_succ_self _) _ _ hP hD hS _ (lv_sub hl [2, 3, 4, 1, 0] rfl)
            · skip
              have e40 : nI (s_ - i_) + Int32.ofInt (-1) = nI (s_ - i_ - 1) := sb_m1z (by omega)
              rw [e40] at hl
              have hw40 := wayS_lt s_ w_ i_
              refine lv_aload_n hx hb dX8_areOrdering_40 rfl (lv_at hl 0 rfl) ?_
              refine lv_iload_n hx hb dX8_areOrdering_41 rfl (lv_at hl 2 rfl) ?_
              refine lv_iconst (v := nI 2) hx hb dX8_areOrdering_42 (by decide) ?_
              refine lv_iload_n hx hb dX8_areOrdering_43 rfl (lv_at hl 3 rfl) ?_
              refine zi_mul (v := nI (2 * (s_ - i_ - 1))) hx hb dX8_areOrdering_44 (pk_mul _ _) ?_
              refine zi_shr (v := nI w_ >>> (nI (2 * (s_ - i_ - 1)) &&& 31)) hx hb dX8_areOrdering_45 rfl ?_
              refine lv_iconst (v := nI 3) hx hb dX8_areOrdering_46 (by decide) ?_
              refine zi_and (v := nI (wayS s_ w_ i_)) hx hb dX8_areOrdering_47 (by rw [way_step hww (by omega)]; unfold wayS; rw [show s_ - 1 - i_ = s_ - i_ - 1 by omega]) ?_
              refine zcWv (As := [.int (nI (wayS s_ w_ i_))]) (rest := []) (wr := [((bd 11), .inl (cy 0, 16, .inl (nIf cc_))), ((bd 12), .inl (cy 0, 16, .inl (nIf nx_)))]) ⟨hx, hb, hml, hown, hts⟩ (c_X8_laysStep l D cy H.size bd um_ ln_ at_ iw_ f_ o1_ (wayS s_ w_ i_) (by omega) (by omega) (by omega)) (cwV 1 hts (zG_V zw_688 zw_689 zw_690 zw_5 zw_691) rfl rfl rfl zd_X8_laysStep ⟨Nat.le_of_ble_eq_true rfl, Nat.le_of_ble_eq_true rfl⟩) hK hP hD hS hA [0, 1, 2] [3, 4] [2, 3, 4, 0, 1] rfl (by decide) rfl (by decide) (by decide) (w2 := (fun u_ : (Nat → Nat) => ([((bd 0), .inr (5, [.int (nI 0), .ref (bd 1), .ref (bd 2), .int (nI um_), .ref (bd 3), .ref (bd 4), .ref (bd 5), .int (nI ln_), .int (nI at_), .int (if iw_ = true then 1 else 0), .ref (bd 6), .ref (bd 7), .ref (bd 8), .ref (bd 9), .ref (bd 10), .ref (bd 11), .ref (bd 12), .ref (bd 13), .ref (bd 14)])), ((bd 1), .inl (cy 0, 130, .inl (nIf f_))), ((bd 8), .inl (cy 0, 16, .inl (nIf u_))), ((bd 11), .inl (cy 0, 16, .inl (nIf cc_))), ((bd 12), .inl (cy 0, 16, .inl (nIf nx_)))] : va_W))) (fun _ => rfl) (by decide) rfl rfl rfl rfl hl.1 rfl (Nat.le_of_ble_eq_true rfl) dX8_areOrdering_48 ⟨Nat.zero_le _, Nat.zero_le _⟩ (fun  u48 H locs h48 hP hD hS => ?_)
              obtain ⟨y1_48, rfl⟩ : ∃ z_, z_ = u48 := ⟨_, rfl⟩
              have h48 : ∀ z_, z_ < f_ 0 → y1_48 z_ = stepF (wayS s_ w_ i_) (f_ 0) z_ := h48
              have hP : va_P D vwCl [((bd 0), .inr (5, [.int (nI 0), .ref (bd 1), .ref (bd 2), .int (nI um_), .ref (bd 3), .ref (bd 4), .ref (bd 5), .int (nI ln_), .int (nI at_), .int (if iw_ = true then 1 else 0), .ref (bd 6), .ref (bd 7), .ref (bd 8), .ref (bd 9), .ref (bd 10), .ref (bd 11), .ref (bd 12), .ref (bd 13), .ref (bd 14)])), ((bd 1), .inl (cy 0, 130, .inl (nIf f_))), ((bd 8), .inl (cy 0, 16, .inl (nIf y1_48))), ((bd 11), .inl (cy 0, 16, .inl (nIf cc_))), ((bd 12), .inl (cy 0, 16, .inl (nIf nx_)))] H := hP
              have hD : va_D zA [((bd 0), .inr (5, [.int (nI 0), .ref (bd 1), .ref (bd 2), .int (nI um_), .ref (bd 3), .ref (bd 4), .ref (bd 5), .int (nI ln_), .int (nI at_), .int (if iw_ = true then 1 else 0), .ref (bd 6), .ref (bd 7), .ref (bd 8), .ref (bd 9), .ref (bd 10), .ref (bd 11), .ref (bd 12), .ref (bd 13), .ref (bd 14)])), ((bd 1), .inl (cy 0, 130, .inl (nIf f_))), ((bd 8), .inl (cy 0, 16, .inl (nIf y1_48))), ((bd 11), .inl (cy 0, 16, .inl (nIf cc_))), ((bd 12), .inl (cy 0, 16, .inl (nIf nx_)))] := hD
              refine lv_iconst (v := nI 0) hx hb dX8_areOrdering_51 (by decide) ?_
              refine lv_istore (lv' := [(4, .int (nI 0)), (0, .ref (bd 0)), (1, .int (nI s_)), (2, .int (nI w_)), (3, .int (nI (s_ - i_ - 1)))]) hx hb dX8_areOrdering_52 hl (by decide) rfl (fun ls hl => ?_)
              have L54 : ∀ (kf_ : Nat) (j_ : Nat) (nx_ : Nat → Nat) (hj : j_ ≤ f_ 0) (hx_ : ∀ z_, z_ < j_ → nx_ (y1_48 z_) = cc_ z_), f_ 0 - j_ < kf_ → ∀ (H : Heap) (locs : List Loc), va_P D vwCl [((bd 0), .inr (5, [.int (nI 0), .ref (bd 1), .ref (bd 2), .int (nI um_), .ref (bd 3), .ref (bd 4), .ref (bd 5), .int (nI ln_), .int (nI at_), .int (if iw_ = true then 1 else 0), .ref (bd 6), .ref (bd 7), .ref (bd 8), .ref (bd 9), .ref (bd 10), .ref (bd 11), .ref (bd 12), .ref (bd 13), .ref (bd 14)])), ((bd 1), .inl (cy 0, 130, .inl (nIf f_))), ((bd 8), .inl (cy 0, 16, .inl (nIf y1_48))), ((bd 11), .inl (cy 0, 16, .inl (nIf cc_))), ((bd 12), .inl (cy 0, 16, .inl (nIf nx_)))] H → va_D zA [((bd 0), .inr (5, [.int (nI 0), .ref (bd 1), .ref (bd 2), .int (nI um_), .ref (bd 3), .ref (bd 4), .ref (bd 5), .int (nI ln_), .int (nI at_), .int (if iw_ = true then 1 else 0), .ref (bd 6), .ref (bd 7), .ref (bd 8), .ref (bd 9), .ref (bd 10), .ref (bd 11), .ref (bd 12), .ref (bd 13), .ref (bd 14)])), ((bd 1), .inl (cy 0, 130, .inl (nIf f_))), ((bd 8), .inl (cy 0, 16, .inl (nIf y1_48))), ((bd 11), .inl (cy 0, 16, .inl (nIf cc_))), ((bd 12), .inl (cy 0, 16, .inl (nIf nx_)))] → va_S zA zs.heap H locs → ∀ ls : Array Slot, lv_has ls 5 [(0, .ref (bd 0)), (1, .int (nI s_)), (2, .int (nI w_)), (3, .int (nI (s_ - i_ - 1))), (4, .int (nI j_))] → W zp l ze r_X8_areOrdering zs zm za zb zme zc H locs 0 0 Q (F0 zm 54 ls []) := by
                intro kf_
                induction kf_ with
                | zero => intro j_ nx_ hj hx_ hk_; exact absurd hk_ (Nat.not_lt_zero _)
                | succ kf_ ih54 =>
                  intro j_ nx_ hj hx_ hk_ H locs hP hD hS ls hl
                  refine lv_iload hx hb dX8_areOrdering_54 (lv_at hl 4 rfl) ?_
                  refine lv_aload_n hx hb dX8_areOrdering_56 rfl (lv_at hl 0 rfl) ?_
                  refine va_get (D := D) (ci := 5) (v := .ref (bd 1)) (C := RX8) (T := TX8) (N := 19) hx hb hts (fun w h => List.mem_cons_of_mem _ (zinX8 w h)) hown hK.1 hP 0 rfl rfl 1 (by decide) (hts _ (List.mem_cons_of_mem _ zw_74)) (fun _ h9 => h9) rfl dX8_areOrdering_57 ?_
                  refine lv_iconst (v := nI 0) hx hb dX8_areOrdering_60 (by decide) ?_
                  refine zi_iald (v := nI (f_ 0)) hx hb hK hP 1 rfl (by omega) (by omega) rfl dX8_areOrdering_61 ?_
                  refine zb_ge (a := j_) (b := f_ 0) (tgt := 90) hx hb dX8_areOrdering_62 (by decide) (by omega) (by omega) (fun c62 => ?_) (fun c62 => ?_)
                  · skip
                    refine lv_iconst (v := nI 0) hx hb dX8_areOrdering_90 (by decide) ?_
                    refine lv_istore (lv' := [(4, .int (nI 0)), (0, .ref (bd 0)), (1, .int (nI s_)), (2, .int (nI w_)), (3, .int (nI (s_ - i_ - 1)))]) hx hb dX8_areOrdering_91 hl (by decide) rfl (fun ls hl => ?_)
                    have L93 : ∀ (kf_ : Nat) (j2_ : Nat) (dc_ : Nat → Nat) (hj2 : j2_ ≤ f_ 0) (hd_ : ∀ z_, z_ < j2_ → dc_ z_ = nx_ z_), f_ 0 - j2_ < kf_ → ∀ (H : Heap) (locs : List Loc), va_P D vwCl [((bd 0), .inr (5, [.int (nI 0), .ref (bd 1), .ref (bd 2), .int (nI um_), .ref (bd 3), .ref (bd 4), .ref (bd 5), .int (nI ln_), .int (nI at_), .int (if iw_ = true then 1 else 0), .ref (bd 6), .ref (bd 7), .ref (bd 8), .ref (bd 9), .ref (bd 10), .ref (bd 11), .ref (bd 12), .ref (bd 13), .ref (bd 14)])), ((bd 1), .inl (cy 0, 130, .inl (nIf f_))), ((bd 8), .inl (cy 0, 16, .inl (nIf y1_48))), ((bd 11), .inl (cy 0, 16, .inl (nIf dc_))), ((bd 12), .inl (cy 0, 16, .inl (nIf nx_)))] H → va_D zA [((bd 0), .inr (5, [.int (nI 0), .ref (bd 1), .ref (bd 2), .int (nI um_), .ref (bd 3), .ref (bd 4), .ref (bd 5), .int (nI ln_), .int (nI at_), .int (if iw_ = true then 1 else 0), .ref (bd 6), .ref (bd 7), .ref (bd 8), .ref (bd 9), .ref (bd 10), .ref (bd 11), .ref (bd 12), .ref (bd 13), .ref (bd 14)])), ((bd 1), .inl (cy 0, 130, .inl (nIf f_))), ((bd 8), .inl (cy 0, 16, .inl (nIf y1_48))), ((bd 11), .inl (cy 0, 16, .inl (nIf dc_))), ((bd 12), .inl (cy 0, 16, .inl (nIf nx_)))] → va_S zA zs.heap H locs → ∀ ls : Array Slot, lv_has ls 5 [(0, .ref (bd 0)), (1, .int (nI s_)), (2, .int (nI w_)), (3, .int (nI (s_ - i_ - 1))), (4, .int (nI j2_))] → W zp l ze r_X8_areOrdering zs zm za zb zme zc H locs 0 0 Q (F0 zm 93 ls []) := by
                      intro kf_
                      induction kf_ with
                      | zero => intro j2_ dc_ hj2 hd_ hk_; exact absurd hk_ (Nat.not_lt_zero _)
                      | succ kf_ ih93 =>
                        intro j2_ dc_ hj2 hd_ hk_ H locs hP hD hS ls hl
                        refine lv_iload hx hb dX8_areOrdering_93 (lv_at hl 4 rfl) ?_
                        refine lv_aload_n hx hb dX8_areOrdering_95 rfl (lv_at hl 0 rfl) ?_
                        refine va_get (D := D) (ci := 5) (v := .ref (bd 1)) (C := RX8) (T := TX8) (N := 19) hx hb hts (fun w h => List.mem_cons_of_mem _ (zinX8 w h)) hown hK.1 hP 0 rfl rfl 1 (by decide) (hts _ (List.mem_cons_of_mem _ zw_74)) (fun _ h9 => h9) rfl dX8_areOrdering_96 ?_
                        refine lv_iconst (v := nI 0) hx hb dX8_areOrdering_99 (by decide) ?_
                        refine zi_iald (v := nI (f_ 0)) hx hb hK hP 1 rfl (by omega) (by omega) rfl dX8_areOrdering_100 ?_
                        refine zb_ge (a := j2_) (b := f_ 0) (tgt := 124) hx hb dX8_areOrdering_101 (by decide) (by omega) (by omega) (fun c101 => ?_) (fun c101 => ?_)
                        · skip
                          have hc2 := way_next hwP2 hn8 h48 (fun z_ hz_ => hx_ z_ (by omega)) (fun z_ hz_ => hd_ z_ (by omega)) hc
                          refine lv_iinc (v := nI (s_ - (i_ + 1)) + Int32.ofInt (-1)) (lv' := [(3, .int (nI (s_ - (i_ + 1)) + Int32.ofInt (-1))), (0, .ref (bd 0)), (1, .int (nI s_)), (2, .int (nI w_)), (4, .int (nI j2_))]) hx hb dX8_areOrdering_124 hl (k := 3) rfl (by rw [show s_ - i_ - 1 = s_ - (i_ + 1) by omega]) (by decide) rfl (fun ls hl => ?_)
                          refine lv_goto (tgt := 36) hx hb dX8_areOrdering_127 (by decide) ?_
                          exact ih36 (i_ + 1) y1_48 dc_ nx_ (by omega) hc2 (by omega) _ _ hP hD hS _ (lv_sub hl [1, 2, 3, 0] rfl)
                        · skip
                          refine lv_aload_n hx hb dX8_areOrdering_104 rfl (lv_at hl 0 rfl) ?_
                          refine va_get (D := D) (ci := 5) (v := .ref (bd 11)) (C := RX8) (T := TX8) (N := 19) hx hb hts (fun w h => List.mem_cons_of_mem _ (zinX8 w h)) hown hK.1 hP 0 rfl rfl 15 (by decide) (hts _ (List.mem_cons_of_mem _ zw_84)) (fun _ h9 => h9) rfl dX8_areOrdering_105 ?_
                          refine lv_iload hx hb dX8_areOrdering_108 (lv_at hl 4 rfl) ?_
                          refine lv_aload_n hx hb dX8_areOrdering_110 rfl (lv_at hl 0 rfl) ?_
                          refine va_get (D := D) (ci := 5) (v := .ref (bd 12)) (C := RX8) (T := TX8) (N := 19) hx hb hts (fun w h => List.mem_cons_of_mem _ (zinX8 w h)) hown hK.1 hP 0 rfl rfl 16 (by decide) (hts _ (List.mem_cons_of_mem _ zw_85)) (fun _ h9 => h9) rfl dX8_areOrdering_111 ?_
                          refine lv_iload hx hb dX8_areOrdering_114 (lv_at hl 4 rfl) ?_
                          refine zi_iald (v := nI (nx_ j2_)) hx hb hK hP 4 rfl (by omega) (by omega) rfl dX8_areOrdering_116 ?_
                          refine zi_iast hx hb hK hP hD hS 3 rfl (by omega) (by omega) dX8_areOrdering_117 (fun H locs hP hD hS => ?_)
                          rw [upd_nIf] at hP hD
                          have hP : va_P D vwCl [((bd 0), .inr (5, [.int (nI 0), .ref (bd 1), .ref (bd 2), .int (nI um_), .ref (bd 3), .ref (bd 4), .ref (bd 5), .int (nI ln_), .int (nI at_), .int (if iw_ = true then 1 else 0), .ref (bd 6), .ref (bd 7), .ref (bd 8), .ref (bd 9), .ref (bd 10), .ref (bd 11), .ref (bd 12), .ref (bd 13), .ref (bd 14)])), ((bd 1), .inl (cy 0, 130, .inl (nIf f_))), ((bd 8), .inl (cy 0, 16, .inl (nIf y1_48))), ((bd 11), .inl (cy 0, 16, .inl (nIf (uN1 dc_ j2_ (nx_ j2_))))), ((bd 12), .inl (cy 0, 16, .inl (nIf nx_)))] H := hP
                          have hD : va_D zA [((bd 0), .inr (5, [.int (nI 0), .ref (bd 1), .ref (bd 2), .int (nI um_), .ref (bd 3), .ref (bd 4), .ref (bd 5), .int (nI ln_), .int (nI at_), .int (if iw_ = true then 1 else 0), .ref (bd 6), .ref (bd 7), .ref (bd 8), .ref (bd 9), .ref (bd 10), .ref (bd 11), .ref (bd 12), .ref (bd 13), .ref (bd 14)])), ((bd 1), .inl (cy 0, 130, .inl (nIf f_))), ((bd 8), .inl (cy 0, 16, .inl (nIf y1_48))), ((bd 11), .inl (cy 0, 16, .inl (nIf (uN1 dc_ j2_ (nx_ j2_))))), ((bd 12), .inl (cy 0, 16, .inl (nIf nx_)))] := hD
                          refine lv_iinc (v := nI (j2_ + 1)) (lv' := [(4, .int (nI (j2_ + 1))), (0, .ref (bd 0)), (1, .int (nI s_)), (2, .int (nI w_)), (3, .int (nI (s_ - i_ - 1)))]) hx hb dX8_areOrdering_118 hl (k := 4) rfl (nI_1 _) (by decide) rfl (fun ls hl => ?_)
                          refine lv_goto (tgt := 93) hx hb dX8_areOrdering_121 (by decide) ?_
                          exact ih93 (j2_ + 1) (uN1 dc_ j2_ (nx_ j2_)) (by omega) (fun z_ hz_ => by by_cases q_ : z_ = j2_; subst q_; exact uN1_s _ _ _; rw [uN1_n _ q_]; exact hd_ z_ (by omega)) (by omega) _ _ hP hD hS _ (lv_sub hl [1, 2, 3, 4, 0] rfl)
                    exact L93 (f_ 0 - 0 + 1) 0 cc_ (Nat.zero_le _) (fun z_ hz_ => absurd hz_ (Nat.not_lt_zero _)) (Nat.lt_succ_self _) _ _ hP hD hS _ (lv_sub hl [1, 2, 3, 4, 0] rfl)
                  · skip
                    have hy65 := h48 j_ (by omega)
                    have hy66 := stepF_lt (t := wayS s_ w_ i_) (show j_ < f_ 0 by omega)
                    refine lv_aload_n hx hb dX8_areOrdering_65 rfl (lv_at hl 0 rfl) ?_
                    refine va_get (D := D) (ci := 5) (v := .ref (bd 12)) (C := RX8) (T := TX8) (N := 19) hx hb hts (fun w h => List.mem_cons_of_mem _ (zinX8 w h)) hown hK.1 hP 0 rfl rfl 16 (by decide) (hts _ (List.mem_cons_of_mem _ zw_85)) (fun _ h9 => h9) rfl dX8_areOrdering_66 ?_
                    refine lv_aload_n hx hb dX8_areOrdering_69 rfl (lv_at hl 0 rfl) ?_
                    refine va_get (D := D) (ci := 5) (v := .ref (bd 8)) (C := RX8) (T := TX8) (N := 19) hx hb hts (fun w h => List.mem_cons_of_mem _ (zinX8 w h)) hown hK.1 hP 0 rfl rfl 12 (by decide) (hts _ (List.mem_cons_of_mem _ zw_81)) (fun _ h9 => h9) rfl dX8_areOrdering_70 ?_
                    refine lv_iload hx hb dX8_areOrdering_73 (lv_at hl 4 rfl) ?_
                    refine zi_iald (v := nI (y1_48 j_)) hx hb hK hP 2 rfl (by omega) (by omega) rfl dX8_areOrdering_75 ?_
                    refine lv_aload_n hx hb dX8_areOrdering_76 rfl (lv_at hl 0 rfl) ?_
                    refine va_get (D := D) (ci := 5) (v := .ref (bd 11)) (C := RX8) (T := TX8) (N := 19) hx hb hts (fun w h => List.mem_cons_of_mem _ (zinX8 w h)) hown hK.1 hP 0 rfl rfl 15 (by decide) (hts _ (List.mem_cons_of_mem _ zw_84)) (fun _ h9 => h9) rfl dX8_areOrdering_77 ?_
                    refine lv_iload hx hb dX8_areOrdering_80 (lv_at hl 4 rfl) ?_
                    refine zi_iald (v := nI (cc_ j_)) hx hb hK hP 3 rfl (by omega) (by omega) rfl dX8_areOrdering_82 ?_
                    refine zi_iast hx hb hK hP hD hS 4 rfl (by omega) (by omega) dX8_areOrdering_83 (fun H locs hP hD hS => ?_)
                    rw [upd_nIf] at hP hD
                    have hP : va_P D vwCl [((bd 0), .inr (5, [.int (nI 0), .ref (bd 1), .ref (bd 2), .int (nI um_), .ref (bd 3), .ref (bd 4), .ref (bd 5), .int (nI ln_), .int (nI at_), .int (if iw_ = true then 1 else 0), .ref (bd 6), .ref (bd 7), .ref (bd 8), .ref (bd 9), .ref (bd 10), .ref (bd 11), .ref (bd 12), .ref (bd 13), .ref (bd 14)])), ((bd 1), .inl (cy 0, 130, .inl (nIf f_))), ((bd 8), .inl (cy 0, 16, .inl (nIf y1_48))), ((bd 11), .inl (cy 0, 16, .inl (nIf cc_))), ((bd 12), .inl (cy 0, 16, .inl (nIf (uN1 nx_ (y1_48 j_) (cc_ j_)))))] H := hP
                    have hD : va_D zA [((bd 0), .inr (5, [.int (nI 0), .ref (bd 1), .ref (bd 2), .int (nI um_), .ref (bd 3), .ref (bd 4), .ref (bd 5), .int (nI ln_), .int (nI at_), .int (if iw_ = true then 1 else 0), .ref (bd 6), .ref (bd 7), .ref (bd 8), .ref (bd 9), .ref (bd 10), .ref (bd 11), .ref (bd 12), .ref (bd 13), .ref (bd 14)])), ((bd 1), .inl (cy 0, 130, .inl (nIf f_))), ((bd 8), .inl (cy 0, 16, .inl (nIf y1_48))), ((bd 11), .inl (cy 0, 16, .inl (nIf cc_))), ((bd 12), .inl (cy 0, 16, .inl (nIf (uN1 nx_ (y1_48 j_) (cc_ j_)))))] := hD
                    refine lv_iinc (v := nI (j_ + 1)) (lv' := [(4, .int (nI (j_ + 1))), (0, .ref (bd 0)), (1, .int (nI s_)), (2, .int (nI w_)), (3, .int (nI (s_ - i_ - 1)))]) hx hb dX8_areOrdering_84 hl (k := 4) rfl (nI_1 _) (by decide) rfl (fun ls hl => ?_)
                    refine lv_goto (tgt := 54) hx hb dX8_areOrdering_87 (by decide) ?_
                    exact ih54 (j_ + 1) (uN1 nx_ (y1_48 j_) (cc_ j_)) (by omega) (fun z_ hz_ => by by_cases q_ : z_ = j_; subst q_; exact uN1_s _ _ _; rw [uN1_n _ (fun e_ => q_ (stepF_inj (t := wayS s_ w_ i_) (n := f_ 0) (by omega) (by omega) (by rw [← h48 z_ (by omega), ← h48 j_ (by omega)]; exact e_)))]; exact hx_ z_ (by omega)) (by omega) _ _ hP hD hS _ (lv_sub hl [1, 2, 3, 4, 0] rfl)
              exact L54 (f_ 0 - 0 + 1) 0 nx_ (Nat.zero_le _) (fun z_ hz_ => absurd hz_ (Nat.not_lt_zero _)) (Nat.lt_succ_self _) _ _ hP hD hS _ (lv_sub hl [1, 2, 3, 4, 0] rfl)
        exact L36 (s_ - 0 + 1) 0 o1_ cc_ nx_ (Nat.zero_le _) (fun c_ hc3_ => by show cc_ (nb (mP m_) c_) = c_; rw [hc_ _ (by have := hwP2.lt hc3_ hn8; omega), fr_nb hwP.1 (by omega)]) (Nat.lt_succ_self _) _ _ hP hD hS _ (lv_sub hl [1, 2, 3, 0] rfl)
      · skip
        have hf12 := fr_lt (mP m_) i_
        refine lv_aload_n hx hb dX8_areOrdering_12 rfl (lv_at hl 0 rfl) ?_
        refine va_get (D := D) (ci := 5) (v := .ref (bd 11)) (C := RX8) (T := TX8) (N := 19) hx hb hts (fun w h => List.mem_cons_of_mem _ (zinX8 w h)) hown hK.1 hP 0 rfl rfl 15 (by decide) (hts _ (List.mem_cons_of_mem _ zw_84)) (fun _ h9 => h9) rfl dX8_areOrdering_13 ?_
        refine lv_iload_n hx hb dX8_areOrdering_16 rfl (lv_at hl 3 rfl) ?_
        refine lv_aload_n hx hb dX8_areOrdering_17 rfl (lv_at hl 0 rfl) ?_
        refine va_get (D := D) (ci := 5) (v := .ref (bd 1)) (C := RX8) (T := TX8) (N := 19) hx hb hts (fun w h => List.mem_cons_of_mem _ (zinX8 w h)) hown hK.1 hP 0 rfl rfl 1 (by decide) (hts _ (List.mem_cons_of_mem _ zw_74)) (fun _ h9 => h9) rfl dX8_areOrdering_18 ?_
        refine lv_iconst (v := nI 2) hx hb dX8_areOrdering_21 (by decide) ?_
        refine lv_iload_n hx hb dX8_areOrdering_22 rfl (lv_at hl 3 rfl) ?_
        refine zi_add (v := nI (2 + i_)) hx hb dX8_areOrdering_23 (nI_add _ _) ?_
        refine zi_iald (v := nI (fr (mP m_) i_)) hx hb hK hP 1 rfl (by omega) (by omega) (congrArg nI (hR.2.2.1 i_ (show i_ < mN m_ by omega))) dX8_areOrdering_24 ?_
        refine zi_iast hx hb hK hP hD hS 3 rfl (by omega) (by omega) dX8_areOrdering_25 (fun H locs hP hD hS => ?_)
        rw [upd_nIf] at hP hD
        have hP : va_P D vwCl [((bd 0), .inr (5, [.int (nI 0), .ref (bd 1), .ref (bd 2), .int (nI um_), .ref (bd 3), .ref (bd 4), .ref (bd 5), .int (nI ln_), .int (nI at_), .int (if iw_ = true then 1 else 0), .ref (bd 6), .ref (bd 7), .ref (bd 8), .ref (bd 9), .ref (bd 10), .ref (bd 11), .ref (bd 12), .ref (bd 13), .ref (bd 14)])), ((bd 1), .inl (cy 0, 130, .inl (nIf f_))), ((bd 8), .inl (cy 0, 16, .inl (nIf o1_))), ((bd 11), .inl (cy 0, 16, .inl (nIf (uN1 cc_ i_ (fr (mP m_) i_))))), ((bd 12), .inl (cy 0, 16, .inl (nIf nx_)))] H := hP
        have hD : va_D zA [((bd 0), .inr (5, [.int (nI 0), .ref (bd 1), .ref (bd 2), .int (nI um_), .ref (bd 3), .ref (bd 4), .ref (bd 5), .int (nI ln_), .int (nI at_), .int (if iw_ = true then 1 else 0), .ref (bd 6), .ref (bd 7), .ref (bd 8), .ref (bd 9), .ref (bd 10), .ref (bd 11), .ref (bd 12), .ref (bd 13), .ref (bd 14)])), ((bd 1), .inl (cy 0, 130, .inl (nIf f_))), ((bd 8), .inl (cy 0, 16, .inl (nIf o1_))), ((bd 11), .inl (cy 0, 16, .inl (nIf (uN1 cc_ i_ (fr (mP m_) i_))))), ((bd 12), .inl (cy 0, 16, .inl (nIf nx_)))] := hD
        refine lv_iinc (v := nI (i_ + 1)) (lv' := [(3, .int (nI (i_ + 1))), (0, .ref (bd 0)), (1, .int (nI s_)), (2, .int (nI w_))]) hx hb dX8_areOrdering_26 hl (k := 3) rfl (nI_1 _) (by decide) rfl (fun ls hl => ?_)
        refine lv_goto (tgt := 2) hx hb dX8_areOrdering_29 (by decide) ?_
        exact ih2 (i_ + 1) (uN1 cc_ i_ (fr (mP m_) i_)) (by omega) (fun z_ hz_ => by by_cases q_ : z_ = i_; subst q_; exact uN1_s _ _ _; rw [uN1_n _ q_]; exact hc_ z_ (by omega)) (by omega) _ _ hP hD hS _ (lv_sub hl [1, 2, 3, 0] rfl)
  exact L2 (f_ 0 - 0 + 1) 0 cc_ (Nat.zero_le _) (fun z_ hz_ => absurd hz_ (Nat.not_lt_zero _)) (Nat.lt_succ_self _) _ _ hP hD hS _ (lv_sub hl [1, 2, 3, 0] rfl)
abbrev w_X8_leastSteps : List Cond := Cond.code yX8_leastSteps cX8_leastSteps 3 (some .int) :: zAll
abbrev r_X8_leastSteps : Room := { frames := 3, cells := 0, slots := 0, locals := 70 }
theorem zd_X8_leastSteps : yX8_leastSteps.cls = RX8 ∧ yX8_leastSteps.cls ≠ "java/lang/invoke/MethodHandle" ∧ yX8_leastSteps.cls ≠ "java/lang/invoke/VarHandle" ∧ (parseMethodDescriptor yX8_leastSteps.desc).map (fun d => d.parameters.length) = some 0 := by decide +kernel
set_option maxHeartbeats 4000000 in
set_option maxRecDepth 100000 in
theorem c_X8_leastSteps (l : Launch) (D : va_G) (cy : Nat → ClassId) (sz : Nat) (bd : Nat → Nat) (um_ : Nat) (ln_ : Nat) (at_ : Nat) (iw_ : Bool) (f_ : Nat → Nat) (m_ : MT) (o1_ : Nat → Nat) (cc_ : Nat → Nat) (nx_ : Nat → Nat) (hw : TVok m_.1) (hR : RowR m_.1 f_) : zWi l yX8_leastSteps w_X8_leastSteps r_X8_leastSteps D cy [((bd 0), .inr (5, [.int (nI 0), .ref (bd 1), .ref (bd 2), .int (nI um_), .ref (bd 3), .ref (bd 4), .ref (bd 5), .int (nI ln_), .int (nI at_), .int (if iw_ = true then 1 else 0), .ref (bd 6), .ref (bd 7), .ref (bd 8), .ref (bd 9), .ref (bd 10), .ref (bd 11), .ref (bd 12), .ref (bd 13), .ref (bd 14)])), ((bd 1), .inl (cy 0, 130, .inl (nIf f_))), ((bd 8), .inl (cy 0, 16, .inl (nIf o1_))), ((bd 11), .inl (cy 0, 16, .inl (nIf cc_))), ((bd 12), .inl (cy 0, 16, .inl (nIf nx_)))] sz [.ref (bd 0)] (fun (r_ : Int32) (u : (Nat → Nat) × (Nat → Nat) × (Nat → Nat)) => r_ = (lstI (mP m_) (mN m_)) ∧ True) (fun u : (Nat → Nat) × (Nat → Nat) × (Nat → Nat) => ([((bd 0), .inr (5, [.int (nI 0), .ref (bd 1), .ref (bd 2), .int (nI um_), .ref (bd 3), .ref (bd 4), .ref (bd 5), .int (nI ln_), .int (nI at_), .int (if iw_ = true then 1 else 0), .ref (bd 6), .ref (bd 7), .ref (bd 8), .ref (bd 9), .ref (bd 10), .ref (bd 11), .ref (bd 12), .ref (bd 13), .ref (bd 14)])), ((bd 1), .inl (cy 0, 130, .inl (nIf f_))), ((bd 8), .inl (cy 0, 16, .inl (nIf u.1))), ((bd 11), .inl (cy 0, 16, .inl (nIf u.2.1))), ((bd 12), .inl (cy 0, 16, .inl (nIf u.2.2)))] : va_W)) := by
  refine zOfW (cc := cX8_leastSteps) (maxL := 3) (ty := .int) (by decide) rfl (Nat.le_of_ble_eq_true rfl) ?_
  intro zp ze zs zm za zb zme zc hx hb hml hts hown hP hK zA hD hA Q kr ls hl
  have hS : va_S zA zs.heap zs.heap [] := va_S.rf
  have hown : zs.vm.findClass RX8 = some zm.cls := hown
  have hl : lv_has ls 3 [(0, .ref (bd 0))] := hl
  have hn2 := ok_2 hw
  have hn16 := ok_n hw
  have hC6 := ok_C hw
  have hwP := ok_P hw
  have hf0 : f_ 0 = mN m_ := hR.1
  have hf1 : f_ 1 = mC m_ := hR.2.1
  have hk0_ : (nI 0).toInt = 0 := rfl
  have hk9_ : (nI 999).toInt = 999 := rfl
  have hk8_ : (-999 : Int32).toInt = -999 := rfl
  refine lv_iconst (v := nI 0) hx hb dX8_leastSteps_0 (by decide) ?_
  refine lv_istore_n (lv' := [(1, .int (nI 0)), (0, .ref (bd 0))]) hx hb dX8_leastSteps_1 rfl hl (by decide) rfl (fun ls hl => ?_)
  have L2 : ∀ (kf_ : Nat) (s_ : Nat) (o1_ : Nat → Nat) (cc_ : Nat → Nat) (nx_ : Nat → Nat) (hs : s_ ≤ 6) (hm_ : ∀ j_, j_ < s_ → ¬ lowWN (mP m_) (mN m_) j_ < 4 ^ j_), 6 - s_ < kf_ → ∀ (H : Heap) (locs : List Loc), va_P D vwCl [((bd 0), .inr (5, [.int (nI 0), .ref (bd 1), .ref (bd 2), .int (nI um_), .ref (bd 3), .ref (bd 4), .ref (bd 5), .int (nI ln_), .int (nI at_), .int (if iw_ = true then 1 else 0), .ref (bd 6), .ref (bd 7), .ref (bd 8), .ref (bd 9), .ref (bd 10), .ref (bd 11), .ref (bd 12), .ref (bd 13), .ref (bd 14)])), ((bd 1), .inl (cy 0, 130, .inl (nIf f_))), ((bd 8), .inl (cy 0, 16, .inl (nIf o1_))), ((bd 11), .inl (cy 0, 16, .inl (nIf cc_))), ((bd 12), .inl (cy 0, 16, .inl (nIf nx_)))] H → va_D zA [((bd 0), .inr (5, [.int (nI 0), .ref (bd 1), .ref (bd 2), .int (nI um_), .ref (bd 3), .ref (bd 4), .ref (bd 5), .int (nI ln_), .int (nI at_), .int (if iw_ = true then 1 else 0), .ref (bd 6), .ref (bd 7), .ref (bd 8), .ref (bd 9), .ref (bd 10), .ref (bd 11), .ref (bd 12), .ref (bd 13), .ref (bd 14)])), ((bd 1), .inl (cy 0, 130, .inl (nIf f_))), ((bd 8), .inl (cy 0, 16, .inl (nIf o1_))), ((bd 11), .inl (cy 0, 16, .inl (nIf cc_))), ((bd 12), .inl (cy 0, 16, .inl (nIf nx_)))] → va_S zA zs.heap H locs → ∀ ls : Array Slot, lv_has ls 3 [(0, .ref (bd 0)), (1, .int (nI s_))] → W zp l ze r_X8_leastSteps zs zm za zb zme zc H locs 0 0 Q (F0 zm 2 ls []) := by
    intro kf_
    induction kf_ with
    | zero => intro s_ o1_ cc_ nx_ hs hm_ hk_; exact absurd hk_ (Nat.not_lt_zero _)
    | succ kf_ ih2 =>
      intro s_ o1_ cc_ nx_ hs hm_ hk_ H locs hP hD hS ls hl
      refine lv_iload_n hx hb dX8_leastSteps_2 rfl (lv_at hl 1 rfl) ?_
      refine lv_iconst (v := nI 5) hx hb dX8_leastSteps_3 (by decide) ?_
      refine zb_gt (a := s_) (b := 5) (tgt := 47) hx hb dX8_leastSteps_4 (by decide) (by omega) (by omega) (fun c4 => ?_) (fun c4 => ?_)
      · skip
        refine lv_bipush (v := (-6)) hx hb dX8_leastSteps_47 (by decide) ?_
        exact kr _ (o1_, cc_, nx_) _ _ _ _ dX8_leastSteps_49 (vp_nar_int _) ⟨few_no (fun j_ hj_ => hm_ j_ (by omega)), trivial⟩ hP hD hS
      · skip
        have h4_ := pow4_le (s := s_) (by omega)
        refine lv_iconst (v := nI 0) hx hb dX8_leastSteps_7 (by decide) ?_
        refine lv_istore_n (lv' := [(2, .int (nI 0)), (0, .ref (bd 0)), (1, .int (nI s_))]) hx hb dX8_leastSteps_8 rfl hl (by decide) rfl (fun ls hl => ?_)
        have L9 : ∀ (kf_ : Nat) (w_ : Nat) (o1_ : Nat → Nat) (cc_ : Nat → Nat) (nx_ : Nat → Nat) (hww : w_ ≤ 4 ^ s_) (hl_ : ∀ j_, j_ < w_ → ¬ ordW (mP m_) (mN m_) s_ j_ = true), 4 ^ s_ - w_ < kf_ → ∀ (H : Heap) (locs : List Loc), va_P D vwCl [((bd 0), .inr (5, [.int (nI 0), .ref (bd 1), .ref (bd 2), .int (nI um_), .ref (bd 3), .ref (bd 4), .ref (bd 5), .int (nI ln_), .int (nI at_), .int (if iw_ = true then 1 else 0), .ref (bd 6), .ref (bd 7), .ref (bd 8), .ref (bd 9), .ref (bd 10), .ref (bd 11), .ref (bd 12), .ref (bd 13), .ref (bd 14)])), ((bd 1), .inl (cy 0, 130, .inl (nIf f_))), ((bd 8), .inl (cy 0, 16, .inl (nIf o1_))), ((bd 11), .inl (cy 0, 16, .inl (nIf cc_))), ((bd 12), .inl (cy 0, 16, .inl (nIf nx_)))] H → va_D zA [((bd 0), .inr (5, [.int (nI 0), .ref (bd 1), .ref (bd 2), .int (nI um_), .ref (bd 3), .ref (bd 4), .ref (bd 5), .int (nI ln_), .int (nI at_), .int (if iw_ = true then 1 else 0), .ref (bd 6), .ref (bd 7), .ref (bd 8), .ref (bd 9), .ref (bd 10), .ref (bd 11), .ref (bd 12), .ref (bd 13), .ref (bd 14)])), ((bd 1), .inl (cy 0, 130, .inl (nIf f_))), ((bd 8), .inl (cy 0, 16, .inl (nIf o1_))), ((bd 11), .inl (cy 0, 16, .inl (nIf cc_))), ((bd 12), .inl (cy 0, 16, .inl (nIf nx_)))] → va_S zA zs.heap H locs → ∀ ls : Array Slot, lv_has ls 3 [(0, .ref (bd 0)), (1, .int (nI s_)), (2, .int (nI w_))] → W zp l ze r_X8_leastSteps zs zm za zb zme zc H locs 0 0 Q (F0 zm 9 ls []) := by
          intro kf_
          induction kf_ with
          | zero => intro w_ o1_ cc_ nx_ hww hl_ hk_; exact absurd hk_ (Nat.not_lt_zero _)
          | succ kf_ ih9 =>
            intro w_ o1_ cc_ nx_ hww hl_ hk_ H locs hP hD hS ls hl
            refine lv_iload_n hx hb dX8_leastSteps_9 rfl (lv_at hl 2 rfl) ?_
            refine lv_iconst (v := nI 1) hx hb dX8_leastSteps_10 (by decide) ?_
            refine lv_iconst (v := nI 2) hx hb dX8_leastSteps_11 (by decide) ?_
            refine lv_iload_n hx hb dX8_leastSteps_12 rfl (lv_at hl 1 rfl) ?_
            refine zi_mul (v := nI (2 * s_)) hx hb dX8_leastSteps_13 (pk_mul _ _) ?_
            refine zi_shl (v := nI (4 ^ s_)) hx hb dX8_leastSteps_14 ((zz_shl1 (by omega)).trans (congrArg nI (pow4 s_))) ?_
            refine zb_ge (a := w_) (b := 4 ^ s_) (tgt := 41) hx hb dX8_leastSteps_15 (by decide) (by omega) (by omega) (fun c15 => ?_) (fun c15 => ?_)
            · skip
              refine lv_iinc (v := nI (s_ + 1)) (lv' := [(1, .int (nI (s_ + 1))), (0, .ref (bd 0)), (2, .int (nI w_))]) hx hb dX8_leastSteps_41 hl (k := 1) rfl (nI_1 _) (by decide) rfl (fun ls hl => ?_)
              refine lv_goto (tgt := 2) hx hb dX8_leastSteps_44 (by decide) ?_
              exact ih2 (s_ + 1) o1_ cc_ nx_ (by omega) (fun j_ hj_ => by rcases Nat.lt_or_ge j_ s_ with q_ | q_; exact hm_ j_ q_; rw [show j_ = s_ by omega, lowW_no (fun k_ hk2_ => hl_ k_ (by omega))]; exact Nat.lt_irrefl _) (by omega) _ _ hP hD hS _ (lv_sub hl [1, 0] rfl)
            · skip
              refine lv_aload_n hx hb dX8_leastSteps_18 rfl (lv_at hl 0 rfl) ?_
              refine lv_iload_n hx hb dX8_leastSteps_19 rfl (lv_at hl 1 rfl) ?_
              refine lv_iload_n hx hb dX8_leastSteps_20 rfl (lv_at hl 2 rfl) ?_
              refine zcWi (As := [.int (nI s_), .int (nI w_)]) (rest := []) (wr := []) ⟨hx, hb, hml, hown, hts⟩ (c_X8_areOrdering l D cy H.size bd um_ ln_ at_ iw_ f_ m_ o1_ cc_ nx_ s_ w_ (by omega) (by omega) (by omega) (by omega)) (cwV 2 hts (zG_V zw_684 zw_685 zw_686 zw_5 zw_687) rfl rfl rfl zd_X8_areOrdering ⟨Nat.le_of_ble_eq_true rfl, Nat.le_of_ble_eq_true rfl⟩) hK hP hD hS hA [0, 1, 2, 3, 4] [] [0, 1, 2, 3, 4] rfl (by decide) rfl (by decide) (by decide) (w2 := (fun u_ : (Nat → Nat) × (Nat → Nat) × (Nat → Nat) => ([((bd 0), .inr (5, [.int (nI 0), .ref (bd 1), .ref (bd 2), .int (nI um_), .ref (bd 3), .ref (bd 4), .ref (bd 5), .int (nI ln_), .int (nI at_), .int (if iw_ = true then 1 else 0), .ref (bd 6), .ref (bd 7), .ref (bd 8), .ref (bd 9), .ref (bd 10), .ref (bd 11), .ref (bd 12), .ref (bd 13), .ref (bd 14)])), ((bd 1), .inl (cy 0, 130, .inl (nIf f_))), ((bd 8), .inl (cy 0, 16, .inl (nIf u_.1))), ((bd 11), .inl (cy 0, 16, .inl (nIf u_.2.1))), ((bd 12), .inl (cy 0, 16, .inl (nIf u_.2.2)))] : va_W))) (fun _ => rfl) (by decide) rfl rfl rfl rfl hl.1 rfl (Nat.le_of_ble_eq_true rfl) dX8_leastSteps_21 ⟨Nat.zero_le _, Nat.zero_le _⟩ (fun r21 u21 H locs h21 hP hD hS => ?_)
              obtain ⟨y1_21, yc_21, yx_21⟩ := u21
              obtain ⟨hr21, h21⟩ := h21
              have hr21 : r21 = if ordW (mP m_) (mN m_) s_ w_ = true then 1 else 0 := hr21
              have h21 : True := h21
              subst hr21
              have hP : va_P D vwCl [((bd 0), .inr (5, [.int (nI 0), .ref (bd 1), .ref (bd 2), .int (nI um_), .ref (bd 3), .ref (bd 4), .ref (bd 5), .int (nI ln_), .int (nI at_), .int (if iw_ = true then 1 else 0), .ref (bd 6), .ref (bd 7), .ref (bd 8), .ref (bd 9), .ref (bd 10), .ref (bd 11), .ref (bd 12), .ref (bd 13), .ref (bd 14)])), ((bd 1), .inl (cy 0, 130, .inl (nIf f_))), ((bd 8), .inl (cy 0, 16, .inl (nIf y1_21))), ((bd 11), .inl (cy 0, 16, .inl (nIf yc_21))), ((bd 12), .inl (cy 0, 16, .inl (nIf yx_21)))] H := hP
              have hD : va_D zA [((bd 0), .inr (5, [.int (nI 0), .ref (bd 1), .ref (bd 2), .int (nI um_), .ref (bd 3), .ref (bd 4), .ref (bd 5), .int (nI ln_), .int (nI at_), .int (if iw_ = true then 1 else 0), .ref (bd 6), .ref (bd 7), .ref (bd 8), .ref (bd 9), .ref (bd 10), .ref (bd 11), .ref (bd 12), .ref (bd 13), .ref (bd 14)])), ((bd 1), .inl (cy 0, 130, .inl (nIf f_))), ((bd 8), .inl (cy 0, 16, .inl (nIf y1_21))), ((bd 11), .inl (cy 0, 16, .inl (nIf yc_21))), ((bd 12), .inl (cy 0, 16, .inl (nIf yx_21)))] := hD
              refine zq_eq (tgt := 35) hx hb dX8_leastSteps_24 (by decide) (fun c24 => ?_) (fun c24 => ?_)
              · skip
                refine lv_iinc (v := nI (w_ + 1)) (lv' := [(2, .int (nI (w_ + 1))), (0, .ref (bd 0)), (1, .int (nI s_))]) hx hb dX8_leastSteps_35 hl (k := 2) rfl (nI_1 _) (by decide) rfl (fun ls hl => ?_)
                refine lv_goto (tgt := 9) hx hb dX8_leastSteps_38 (by decide) ?_
                exact ih9 (w_ + 1) y1_21 yc_21 yx_21 (by omega) (fun j_ hj_ => by rcases Nat.lt_or_ge j_ w_ with q_ | q_; exact hl_ j_ q_; rw [show j_ = w_ by omega]; exact c24) (by omega) _ _ hP hD hS _ (lv_sub hl [1, 2, 0] rfl)
              · skip
                refine lv_sipush (v := nI 2000) hx hb dX8_leastSteps_27 (by decide) ?_
                refine lv_iload_n hx hb dX8_leastSteps_30 rfl (lv_at hl 1 rfl) ?_
                refine zi_mul (v := nI (2000 * s_)) hx hb dX8_leastSteps_31 (pk_mul _ _) ?_
                refine lv_iload_n hx hb dX8_leastSteps_32 rfl (lv_at hl 2 rfl) ?_
                refine zi_add (v := nI ((2000 * s_) + w_)) hx hb dX8_leastSteps_33 (nI_add _ _) ?_
                exact kr _ (y1_21, yc_21, yx_21) _ _ _ _ dX8_leastSteps_34 (vp_nar_int _) ⟨few_yes (by omega) (by omega) c24 hl_ hm_, trivial⟩ hP hD hS
        exact L9 (4 ^ s_ - 0 + 1) 0 o1_ cc_ nx_ (Nat.zero_le _) (fun j_ hj_ => absurd hj_ (Nat.not_lt_zero _)) (Nat.lt_succ_self _) _ _ hP hD hS _ (lv_sub hl [1, 2, 0] rfl)
  exact L2 (6 - 0 + 1) 0 o1_ cc_ nx_ (Nat.zero_le _) (fun j_ hj_ => absurd hj_ (Nat.not_lt_zero _)) (Nat.lt_succ_self _) _ _ hP hD hS _ (lv_sub hl [1, 0] rfl)
abbrev w_X8_fewestSteps : List Cond := Cond.code yX8_fewestSteps cX8_fewestSteps 2 (some .int) :: zAll
abbrev r_X8_fewestSteps : Room := { frames := 4, cells := 0, slots := 0, locals := 92 }
theorem zd_X8_fewestSteps : yX8_fewestSteps.cls = RX8 ∧ yX8_fewestSteps.cls ≠ "java/lang/invoke/MethodHandle" ∧ yX8_fewestSteps.cls ≠ "java/lang/invoke/VarHandle" ∧ (parseMethodDescriptor yX8_fewestSteps.desc).map (fun d => d.parameters.length) = some 0 := by decide +kernel
set_option maxHeartbeats 4000000 in
set_option maxRecDepth 100000 in
theorem c_X8_fewestSteps (l : Launch) (D : va_G) (cy : Nat → ClassId) (sz : Nat) (bd : Nat → Nat) (um_ : Nat) (ln_ : Nat) (at_ : Nat) (iw_ : Bool) (f_ : Nat → Nat) (m_ : MT) (o1_ : Nat → Nat) (cc_ : Nat → Nat) (nx_ : Nat → Nat) (hw : TVok m_.1) (hR : RowR m_.1 f_) : zWi l yX8_fewestSteps w_X8_fewestSteps r_X8_fewestSteps D cy [((bd 0), .inr (5, [.int (nI 0), .ref (bd 1), .ref (bd 2), .int (nI um_), .ref (bd 3), .ref (bd 4), .ref (bd 5), .int (nI ln_), .int (nI at_), .int (if iw_ = true then 1 else 0), .ref (bd 6), .ref (bd 7), .ref (bd 8), .ref (bd 9), .ref (bd 10), .ref (bd 11), .ref (bd 12), .ref (bd 13), .ref (bd 14)])), ((bd 1), .inl (cy 0, 130, .inl (nIf f_))), ((bd 8), .inl (cy 0, 16, .inl (nIf o1_))), ((bd 11), .inl (cy 0, 16, .inl (nIf cc_))), ((bd 12), .inl (cy 0, 16, .inl (nIf nx_)))] sz [.ref (bd 0)] (fun (r_ : Int32) (u : (Nat → Nat) × (Nat → Nat) × (Nat → Nat)) => r_ = (fewS (mP m_) (mN m_)) ∧ True) (fun u : (Nat → Nat) × (Nat → Nat) × (Nat → Nat) => ([((bd 0), .inr (5, [.int (nI 0), .ref (bd 1), .ref (bd 2), .int (nI um_), .ref (bd 3), .ref (bd 4), .ref (bd 5), .int (nI ln_), .int (nI at_), .int (if iw_ = true then 1 else 0), .ref (bd 6), .ref (bd 7), .ref (bd 8), .ref (bd 9), .ref (bd 10), .ref (bd 11), .ref (bd 12), .ref (bd 13), .ref (bd 14)])), ((bd 1), .inl (cy 0, 130, .inl (nIf f_))), ((bd 8), .inl (cy 0, 16, .inl (nIf u.1))), ((bd 11), .inl (cy 0, 16, .inl (nIf u.2.1))), ((bd 12), .inl (cy 0, 16, .inl (nIf u.2.2)))] : va_W)) := by
  refine zOfW (cc := cX8_fewestSteps) (maxL := 2) (ty := .int) (by decide) rfl (Nat.le_of_ble_eq_true rfl) ?_
  intro zp ze zs zm za zb zme zc hx hb hml hts hown hP hK zA hD hA Q kr ls hl
  have hS : va_S zA zs.heap zs.heap [] := va_S.rf
  have hown : zs.vm.findClass RX8 = some zm.cls := hown
  have hl : lv_has ls 2 [(0, .ref (bd 0))] := hl
  have hn2 := ok_2 hw
  have hn16 := ok_n hw
  have hC6 := ok_C hw
  have hwP := ok_P hw
  have hf0 : f_ 0 = mN m_ := hR.1
  have hf1 : f_ 1 = mC m_ := hR.2.1
  have hk0_ : (nI 0).toInt = 0 := rfl
  have hk9_ : (nI 999).toInt = 999 := rfl
  have hk8_ : (-999 : Int32).toInt = -999 := rfl
  refine lv_aload_n hx hb dX8_fewestSteps_0 rfl (lv_at hl 0 rfl) ?_
  refine lv_iconst (v := nI 0) hx hb dX8_fewestSteps_1 (by decide) ?_
  refine va_put (D := D) (ci := 5) (v := .int (nI 0)) (ty := .int) (C := RX8) (T := TX8) (N := 19) hx hb hts (fun w h => List.mem_cons_of_mem _ (zinX8 w h)) tyX8 tyX8_ok nmX8 hown hK.1 hP hD hS 0 rfl rfl 0 (by decide) (hts _ (List.mem_cons_of_mem _ zw_88)) (fun _ h9 => h9) rfl (tyX8_ok 0 (by decide)) rfl rfl (Nat.le_of_ble_eq_true rfl) dX8_fewestSteps_2 (fun H locs hP hD hS => ?_)
  have hP : va_P D vwCl [((bd 0), .inr (5, [.int (nI 0), .ref (bd 1), .ref (bd 2), .int (nI um_), .ref (bd 3), .ref (bd 4), .ref (bd 5), .int (nI ln_), .int (nI at_), .int (if iw_ = true then 1 else 0), .ref (bd 6), .ref (bd 7), .ref (bd 8), .ref (bd 9), .ref (bd 10), .ref (bd 11), .ref (bd 12), .ref (bd 13), .ref (bd 14)])), ((bd 1), .inl (cy 0, 130, .inl (nIf f_))), ((bd 8), .inl (cy 0, 16, .inl (nIf o1_))), ((bd 11), .inl (cy 0, 16, .inl (nIf cc_))), ((bd 12), .inl (cy 0, 16, .inl (nIf nx_)))] H := hP
  have hD : va_D zA [((bd 0), .inr (5, [.int (nI 0), .ref (bd 1), .ref (bd 2), .int (nI um_), .ref (bd 3), .ref (bd 4), .ref (bd 5), .int (nI ln_), .int (nI at_), .int (if iw_ = true then 1 else 0), .ref (bd 6), .ref (bd 7), .ref (bd 8), .ref (bd 9), .ref (bd 10), .ref (bd 11), .ref (bd 12), .ref (bd 13), .ref (bd 14)])), ((bd 1), .inl (cy 0, 130, .inl (nIf f_))), ((bd 8), .inl (cy 0, 16, .inl (nIf o1_))), ((bd 11), .inl (cy 0, 16, .inl (nIf cc_))), ((bd 12), .inl (cy 0, 16, .inl (nIf nx_)))] := hD
  refine lv_aload_n hx hb dX8_fewestSteps_5 rfl (lv_at hl 0 rfl) ?_
  refine zcWi (As := []) (rest := []) (wr := []) ⟨hx, hb, hml, hown, hts⟩ (c_X8_leastSteps l D cy H.size bd um_ ln_ at_ iw_ f_ m_ o1_ cc_ nx_ (by omega) (by omega)) (cwV 0 hts (zG_V zw_680 zw_681 zw_682 zw_5 zw_683) rfl rfl rfl zd_X8_leastSteps ⟨Nat.le_of_ble_eq_true rfl, Nat.le_of_ble_eq_true rfl⟩) hK hP hD hS hA [0, 1, 2, 3, 4] [] [0, 1, 2, 3, 4] rfl (by decide) rfl (by decide) (by decide) (w2 := (fun u_ : (Nat → Nat) × (Nat → Nat) × (Nat → Nat) => ([((bd 0), .inr (5, [.int (nI 0), .ref (bd 1), .ref (bd 2), .int (nI um_), .ref (bd 3), .ref (bd 4), .ref (bd 5), .int (nI ln_), .int (nI at_), .int (if iw_ = true then 1 else 0), .ref (bd 6), .ref (bd 7), .ref (bd 8), .ref (bd 9), .ref (bd 10), .ref (bd 11), .ref (bd 12), .ref (bd 13), .ref (bd 14)])), ((bd 1), .inl (cy 0, 130, .inl (nIf f_))), ((bd 8), .inl (cy 0, 16, .inl (nIf u_.1))), ((bd 11), .inl (cy 0, 16, .inl (nIf u_.2.1))), ((bd 12), .inl (cy 0, 16, .inl (nIf u_.2.2)))] : va_W))) (fun _ => rfl) (by decide) rfl rfl rfl rfl hl.1 rfl (Nat.le_of_ble_eq_true rfl) dX8_fewestSteps_6 ⟨Nat.zero_le _, Nat.zero_le _⟩ (fun r6 u6 H locs h6 hP hD hS => ?_)
  obtain ⟨y1_6, yc_6, yx_6⟩ := u6
  obtain ⟨hr6, h6⟩ := h6
  have hr6 : r6 = lstI (mP m_) (mN m_) := hr6
  have h6 : True := h6
  subst hr6
  have hP : va_P D vwCl [((bd 0), .inr (5, [.int (nI 0), .ref (bd 1), .ref (bd 2), .int (nI um_), .ref (bd 3), .ref (bd 4), .ref (bd 5), .int (nI ln_), .int (nI at_), .int (if iw_ = true then 1 else 0), .ref (bd 6), .ref (bd 7), .ref (bd 8), .ref (bd 9), .ref (bd 10), .ref (bd 11), .ref (bd 12), .ref (bd 13), .ref (bd 14)])), ((bd 1), .inl (cy 0, 130, .inl (nIf f_))), ((bd 8), .inl (cy 0, 16, .inl (nIf y1_6))), ((bd 11), .inl (cy 0, 16, .inl (nIf yc_6))), ((bd 12), .inl (cy 0, 16, .inl (nIf yx_6)))] H := hP
  have hD : va_D zA [((bd 0), .inr (5, [.int (nI 0), .ref (bd 1), .ref (bd 2), .int (nI um_), .ref (bd 3), .ref (bd 4), .ref (bd 5), .int (nI ln_), .int (nI at_), .int (if iw_ = true then 1 else 0), .ref (bd 6), .ref (bd 7), .ref (bd 8), .ref (bd 9), .ref (bd 10), .ref (bd 11), .ref (bd 12), .ref (bd 13), .ref (bd 14)])), ((bd 1), .inl (cy 0, 130, .inl (nIf f_))), ((bd 8), .inl (cy 0, 16, .inl (nIf y1_6))), ((bd 11), .inl (cy 0, 16, .inl (nIf yc_6))), ((bd 12), .inl (cy 0, 16, .inl (nIf yx_6)))] := hD
  refine lv_istore_n (lv' := [(1, .int (lstI (mP m_) (mN m_))), (0, .ref (bd 0))]) hx hb dX8_fewestSteps_9 rfl hl (by decide) rfl (fun ls hl => ?_)
  obtain ⟨F_, hF_⟩ : ∃ z_, z_ = fewN (mP m_) (mN m_) := ⟨_, rfl⟩
  obtain ⟨W_, hW_⟩ : ∃ z_, z_ = lowWN (mP m_) (mN m_) F_ := ⟨_, rfl⟩
  rcases Nat.lt_or_ge F_ 6 with hf_ | hf_
  · have e10_ : lstI (mP m_) (mN m_) = nI (2000 * F_ + W_) := by unfold lstI; rw [← hF_, if_pos hf_, ← hW_]
    rw [e10_] at hl
    have hwl_ : W_ < 4 ^ F_ := by rw [hW_, hF_]; exact few_low (by rw [← hF_]; exact hf_)
    have h4_ := pow4_le (s := F_) (by omega)
    refine lv_iload_n hx hb dX8_fewestSteps_10 rfl (lv_at hl 0 rfl) ?_
    refine lv_bipush (v := (-6)) hx hb dX8_fewestSteps_11 (by decide) ?_
    refine zt_ne (a := ((2000 * F_ + W_ : Nat) : Int)) (b := (-6)) (tgt := 21) hx hb dX8_fewestSteps_13 (by decide) (nI_toInt (by omega)) rfl (fun c13 => ?_) (fun hd_ => absurd hd_ (by omega))
    refine lv_iload_n hx hb dX8_fewestSteps_21 rfl (lv_at hl 0 rfl) ?_
    refine lv_sipush (v := nI 2000) hx hb dX8_fewestSteps_22 (by decide) ?_
    refine zi_div (v := nI F_) hx hb dX8_fewestSteps_25 (nI_ne0 (by omega) (by omega)) ((pk_div (by omega) (by omega) (by omega)).trans (congrArg nI (by omega))) ?_
    exact kr _ (y1_6, yc_6, yx_6) _ _ _ _ dX8_fewestSteps_26 (vp_nar_int _) ⟨(by unfold fewS; rw [← hF_, if_pos hf_]), trivial⟩ hP hD hS
  · have e10_ : lstI (mP m_) (mN m_) = (-6) := by unfold lstI; rw [← hF_, if_neg (by omega)]
    rw [e10_] at hl
    refine lv_iload_n hx hb dX8_fewestSteps_10 rfl (lv_at hl 0 rfl) ?_
    refine lv_bipush (v := (-6)) hx hb dX8_fewestSteps_11 (by decide) ?_
    refine zt_ne (a := (-6)) (b := (-6)) (tgt := 21) hx hb dX8_fewestSteps_13 (by decide) rfl rfl (fun hd_ => absurd hd_ (by omega)) (fun c13 => ?_)
    refine lv_bipush (v := (-6)) hx hb dX8_fewestSteps_16 (by decide) ?_
    refine lv_goto (tgt := 26) hx hb dX8_fewestSteps_18 (by decide) ?_
    exact kr _ (y1_6, yc_6, yx_6) _ _ _ _ dX8_fewestSteps_26 (vp_nar_int _) ⟨(by unfold fewS; rw [← hF_, if_neg (by omega)]), trivial⟩ hP hD hS
abbrev w_X8_firstStep : List Cond := Cond.code yX8_firstStep cX8_firstStep 3 (some .int) :: zAll
abbrev r_X8_firstStep : Room := { frames := 4, cells := 0, slots := 0, locals := 92 }
theorem zd_X8_firstStep : yX8_firstStep.cls = RX8 ∧ yX8_firstStep.cls ≠ "java/lang/invoke/MethodHandle" ∧ yX8_firstStep.cls ≠ "java/lang/invoke/VarHandle" ∧ (parseMethodDescriptor yX8_firstStep.desc).map (fun d => d.parameters.length) = some 0 := by decide +kernel
set_option maxHeartbeats 4000000 in
set_option maxRecDepth 100000 in
theorem c_X8_firstStep (l : Launch) (D : va_G) (cy : Nat → ClassId) (sz : Nat) (bd : Nat → Nat) (um_ : Nat) (ln_ : Nat) (at_ : Nat) (iw_ : Bool) (f_ : Nat → Nat) (m_ : MT) (o1_ : Nat → Nat) (cc_ : Nat → Nat) (nx_ : Nat → Nat) (hw : TVok m_.1) (hR : RowR m_.1 f_) : zWi l yX8_firstStep w_X8_firstStep r_X8_firstStep D cy [((bd 0), .inr (5, [.int (nI 0), .ref (bd 1), .ref (bd 2), .int (nI um_), .ref (bd 3), .ref (bd 4), .ref (bd 5), .int (nI ln_), .int (nI at_), .int (if iw_ = true then 1 else 0), .ref (bd 6), .ref (bd 7), .ref (bd 8), .ref (bd 9), .ref (bd 10), .ref (bd 11), .ref (bd 12), .ref (bd 13), .ref (bd 14)])), ((bd 1), .inl (cy 0, 130, .inl (nIf f_))), ((bd 8), .inl (cy 0, 16, .inl (nIf o1_))), ((bd 11), .inl (cy 0, 16, .inl (nIf cc_))), ((bd 12), .inl (cy 0, 16, .inl (nIf nx_)))] sz [.ref (bd 0)] (fun (r_ : Int32) (u : (Nat → Nat) × (Nat → Nat) × (Nat → Nat)) => r_ = (firS (mP m_) (mN m_)) ∧ True) (fun u : (Nat → Nat) × (Nat → Nat) × (Nat → Nat) => ([((bd 0), .inr (5, [.int (nI 0), .ref (bd 1), .ref (bd 2), .int (nI um_), .ref (bd 3), .ref (bd 4), .ref (bd 5), .int (nI ln_), .int (nI at_), .int (if iw_ = true then 1 else 0), .ref (bd 6), .ref (bd 7), .ref (bd 8), .ref (bd 9), .ref (bd 10), .ref (bd 11), .ref (bd 12), .ref (bd 13), .ref (bd 14)])), ((bd 1), .inl (cy 0, 130, .inl (nIf f_))), ((bd 8), .inl (cy 0, 16, .inl (nIf u.1))), ((bd 11), .inl (cy 0, 16, .inl (nIf u.2.1))), ((bd 12), .inl (cy 0, 16, .inl (nIf u.2.2)))] : va_W)) := by
  refine zOfW (cc := cX8_firstStep) (maxL := 3) (ty := .int) (by decide) rfl (Nat.le_of_ble_eq_true rfl) ?_
  intro zp ze zs zm za zb zme zc hx hb hml hts hown hP hK zA hD hA Q kr ls hl
  have hS : va_S zA zs.heap zs.heap [] := va_S.rf
  have hown : zs.vm.findClass RX8 = some zm.cls := hown
  have hl : lv_has ls 3 [(0, .ref (bd 0))] := hl
  have hn2 := ok_2 hw
  have hn16 := ok_n hw
  have hC6 := ok_C hw
  have hwP := ok_P hw
  have hf0 : f_ 0 = mN m_ := hR.1
  have hf1 : f_ 1 = mC m_ := hR.2.1
  have hk0_ : (nI 0).toInt = 0 := rfl
  have hk9_ : (nI 999).toInt = 999 := rfl
  have hk8_ : (-999 : Int32).toInt = -999 := rfl
  refine lv_aload_n hx hb dX8_firstStep_0 rfl (lv_at hl 0 rfl) ?_
  refine lv_iconst (v := nI 0) hx hb dX8_firstStep_1 (by decide) ?_
  refine va_put (D := D) (ci := 5) (v := .int (nI 0)) (ty := .int) (C := RX8) (T := TX8) (N := 19) hx hb hts (fun w h => List.mem_cons_of_mem _ (zinX8 w h)) tyX8 tyX8_ok nmX8 hown hK.1 hP hD hS 0 rfl rfl 0 (by decide) (hts _ (List.mem_cons_of_mem _ zw_88)) (fun _ h9 => h9) rfl (tyX8_ok 0 (by decide)) rfl rfl (Nat.le_of_ble_eq_true rfl) dX8_firstStep_2 (fun H locs hP hD hS => ?_)
  have hP : va_P D vwCl [((bd 0), .inr (5, [.int (nI 0), .ref (bd 1), .ref (bd 2), .int (nI um_), .ref (bd 3), .ref (bd 4), .ref (bd 5), .int (nI ln_), .int (nI at_), .int (if iw_ = true then 1 else 0), .ref (bd 6), .ref (bd 7), .ref (bd 8), .ref (bd 9), .ref (bd 10), .ref (bd 11), .ref (bd 12), .ref (bd 13), .ref (bd 14)])), ((bd 1), .inl (cy 0, 130, .inl (nIf f_))), ((bd 8), .inl (cy 0, 16, .inl (nIf o1_))), ((bd 11), .inl (cy 0, 16, .inl (nIf cc_))), ((bd 12), .inl (cy 0, 16, .inl (nIf nx_)))] H := hP
  have hD : va_D zA [((bd 0), .inr (5, [.int (nI 0), .ref (bd 1), .ref (bd 2), .int (nI um_), .ref (bd 3), .ref (bd 4), .ref (bd 5), .int (nI ln_), .int (nI at_), .int (if iw_ = true then 1 else 0), .ref (bd 6), .ref (bd 7), .ref (bd 8), .ref (bd 9), .ref (bd 10), .ref (bd 11), .ref (bd 12), .ref (bd 13), .ref (bd 14)])), ((bd 1), .inl (cy 0, 130, .inl (nIf f_))), ((bd 8), .inl (cy 0, 16, .inl (nIf o1_))), ((bd 11), .inl (cy 0, 16, .inl (nIf cc_))), ((bd 12), .inl (cy 0, 16, .inl (nIf nx_)))] := hD
  refine lv_aload_n hx hb dX8_firstStep_5 rfl (lv_at hl 0 rfl) ?_
  refine zcWi (As := []) (rest := []) (wr := []) ⟨hx, hb, hml, hown, hts⟩ (c_X8_leastSteps l D cy H.size bd um_ ln_ at_ iw_ f_ m_ o1_ cc_ nx_ (by omega) (by omega)) (cwV 0 hts (zG_V zw_680 zw_681 zw_682 zw_5 zw_683) rfl rfl rfl zd_X8_leastSteps ⟨Nat.le_of_ble_eq_true rfl, Nat.le_of_ble_eq_true rfl⟩) hK hP hD hS hA [0, 1, 2, 3, 4] [] [0, 1, 2, 3, 4] rfl (by decide) rfl (by decide) (by decide) (w2 := (fun u_ : (Nat → Nat) × (Nat → Nat) × (Nat → Nat) => ([((bd 0), .inr (5, [.int (nI 0), .ref (bd 1), .ref (bd 2), .int (nI um_), .ref (bd 3), .ref (bd 4), .ref (bd 5), .int (nI ln_), .int (nI at_), .int (if iw_ = true then 1 else 0), .ref (bd 6), .ref (bd 7), .ref (bd 8), .ref (bd 9), .ref (bd 10), .ref (bd 11), .ref (bd 12), .ref (bd 13), .ref (bd 14)])), ((bd 1), .inl (cy 0, 130, .inl (nIf f_))), ((bd 8), .inl (cy 0, 16, .inl (nIf u_.1))), ((bd 11), .inl (cy 0, 16, .inl (nIf u_.2.1))), ((bd 12), .inl (cy 0, 16, .inl (nIf u_.2.2)))] : va_W))) (fun _ => rfl) (by decide) rfl rfl rfl rfl hl.1 rfl (Nat.le_of_ble_eq_true rfl) dX8_firstStep_6 ⟨Nat.zero_le _, Nat.zero_le _⟩ (fun r6 u6 H locs h6 hP hD hS => ?_)
  obtain ⟨y1_6, yc_6, yx_6⟩ := u6
  obtain ⟨hr6, h6⟩ := h6
  have hr6 : r6 = lstI (mP m_) (mN m_) := hr6
  have h6 : True := h6
  subst hr6
  have hP : va_P D vwCl [((bd 0), .inr (5, [.int (nI 0), .ref (bd 1), .ref (bd 2), .int (nI um_), .ref (bd 3), .ref (bd 4), .ref (bd 5), .int (nI ln_), .int (nI at_), .int (if iw_ = true then 1 else 0), .ref (bd 6), .ref (bd 7), .ref (bd 8), .ref (bd 9), .ref (bd 10), .ref (bd 11), .ref (bd 12), .ref (bd 13), .ref (bd 14)])), ((bd 1), .inl (cy 0, 130, .inl (nIf f_))), ((bd 8), .inl (cy 0, 16, .inl (nIf y1_6))), ((bd 11), .inl (cy 0, 16, .inl (nIf yc_6))), ((bd 12), .inl (cy 0, 16, .inl (nIf yx_6)))] H := hP
  have hD : va_D zA [((bd 0), .inr (5, [.int (nI 0), .ref (bd 1), .ref (bd 2), .int (nI um_), .ref (bd 3), .ref (bd 4), .ref (bd 5), .int (nI ln_), .int (nI at_), .int (if iw_ = true then 1 else 0), .ref (bd 6), .ref (bd 7), .ref (bd 8), .ref (bd 9), .ref (bd 10), .ref (bd 11), .ref (bd 12), .ref (bd 13), .ref (bd 14)])), ((bd 1), .inl (cy 0, 130, .inl (nIf f_))), ((bd 8), .inl (cy 0, 16, .inl (nIf y1_6))), ((bd 11), .inl (cy 0, 16, .inl (nIf yc_6))), ((bd 12), .inl (cy 0, 16, .inl (nIf yx_6)))] := hD
  refine lv_istore_n (lv' := [(1, .int (lstI (mP m_) (mN m_))), (0, .ref (bd 0))]) hx hb dX8_firstStep_9 rfl hl (by decide) rfl (fun ls hl => ?_)
  obtain ⟨F_, hF_⟩ : ∃ z_, z_ = fewN (mP m_) (mN m_) := ⟨_, rfl⟩
  obtain ⟨W_, hW_⟩ : ∃ z_, z_ = lowWN (mP m_) (mN m_) F_ := ⟨_, rfl⟩
  rcases Nat.lt_or_ge F_ 6 with hf_ | hf_
  · have e10_ : lstI (mP m_) (mN m_) = nI (2000 * F_ + W_) := by unfold lstI; rw [← hF_, if_pos hf_, ← hW_]
    rw [e10_] at hl
    have hwl_ : W_ < 4 ^ F_ := by rw [hW_, hF_]; exact few_low (by rw [← hF_]; exact hf_)
    have h4_ := pow4_le (s := F_) (by omega)
    refine lv_iload_n hx hb dX8_firstStep_10 rfl (lv_at hl 0 rfl) ?_
    refine lv_sipush (v := nI 2000) hx hb dX8_firstStep_11 (by decide) ?_
    refine zi_div (v := nI F_) hx hb dX8_firstStep_14 (nI_ne0 (by omega) (by omega)) ((pk_div (by omega) (by omega) (by omega)).trans (congrArg nI (by omega))) ?_
    refine lv_istore_n (lv' := [(2, .int (nI F_)), (1, .int (nI (2000 * F_ + W_))), (0, .ref (bd 0))]) hx hb dX8_firstStep_15 rfl hl (by decide) rfl (fun ls hl => ?_)
    refine lv_iload_n hx hb dX8_firstStep_16 rfl (lv_at hl 1 rfl) ?_
    refine lv_bipush (v := (-6)) hx hb dX8_firstStep_17 (by decide) ?_
    refine zt_eq (a := ((2000 * F_ + W_ : Nat) : Int)) (b := (-6)) (tgt := 26) hx hb dX8_firstStep_19 (by decide) (nI_toInt (by omega)) rfl (fun hd_ => absurd hd_ (by omega)) (fun c19 => ?_)
    refine lv_iload_n hx hb dX8_firstStep_22 rfl (lv_at hl 0 rfl) ?_
    refine zb0_ne (a := F_) (tgt := 31) hx hb dX8_firstStep_23 (by decide) (by omega) (fun c23 => ?_) (fun c23 => ?_)
    · skip
      refine lv_iload_n hx hb dX8_firstStep_31 rfl (lv_at hl 1 rfl) ?_
      refine lv_sipush (v := nI 2000) hx hb dX8_firstStep_32 (by decide) ?_
      refine zi_rem (v := nI W_) hx hb dX8_firstStep_35 (nI_ne0 (by omega) (by omega)) ((pk_rem (by omega) (by omega) (by omega)).trans (congrArg nI (by omega))) ?_
      refine lv_iconst (v := nI 2) hx hb dX8_firstStep_36 (by decide) ?_
      refine lv_iload_n hx hb dX8_firstStep_37 rfl (lv_at hl 0 rfl) ?_
      refine lv_iconst (v := nI 1) hx hb dX8_firstStep_38 (by decide) ?_
      refine zi_sub (v := nI (F_ - 1)) hx hb dX8_firstStep_39 (pk_sub (by omega)) ?_
      refine zi_mul (v := nI (2 * (F_ - 1))) hx hb dX8_firstStep_40 (pk_mul _ _) ?_
      refine zi_shr (v := nI (wayS F_ W_ 0)) hx hb dX8_firstStep_41 ((zz_shr (by omega) (by omega)).trans (congrArg nI (fst_way (by omega) hwl_))) ?_
      exact kr _ (y1_6, yc_6, yx_6) _ _ _ _ dX8_firstStep_42 (vp_nar_int _) ⟨(by unfold firS; rw [← hF_, if_pos (by omega), ← hW_]), trivial⟩ hP hD hS
    · skip
      refine lv_bipush (v := (-6)) hx hb dX8_firstStep_26 (by decide) ?_
      refine lv_goto (tgt := 42) hx hb dX8_firstStep_28 (by decide) ?_
      exact kr _ (y1_6, yc_6, yx_6) _ _ _ _ dX8_firstStep_42 (vp_nar_int _) ⟨(by unfold firS; rw [← hF_, if_neg (by omega)]), trivial⟩ hP hD hS
  · have e10_ : lstI (mP m_) (mN m_) = (-6) := by unfold lstI; rw [← hF_, if_neg (by omega)]
    rw [e10_] at hl
    refine lv_iload_n hx hb dX8_firstStep_10 rfl (lv_at hl 0 rfl) ?_
    refine lv_sipush (v := nI 2000) hx hb dX8_firstStep_11 (by decide) ?_
    refine zi_div (v := (-6) / (nI 2000)) hx hb dX8_firstStep_14 (nI_ne0 (by omega) (by omega)) rfl ?_
    refine lv_istore_n (lv' := [(2, .int ((-6) / (nI 2000))), (1, .int (-6)), (0, .ref (bd 0))]) hx hb dX8_firstStep_15 rfl hl (by decide) rfl (fun ls hl => ?_)
    refine lv_iload_n hx hb dX8_firstStep_16 rfl (lv_at hl 1 rfl) ?_
    refine lv_bipush (v := (-6)) hx hb dX8_firstStep_17 (by decide) ?_
    refine zt_eq (a := (-6)) (b := (-6)) (tgt := 26) hx hb dX8_firstStep_19 (by decide) rfl rfl (fun c19 => ?_) (fun hd_ => absurd hd_ (by omega))
    refine lv_bipush (v := (-6)) hx hb dX8_firstStep_26 (by decide) ?_
    refine lv_goto (tgt := 42) hx hb dX8_firstStep_28 (by decide) ?_
    exact kr _ (y1_6, yc_6, yx_6) _ _ _ _ dX8_firstStep_42 (vp_nar_int _) ⟨(by unfold firS; rw [← hF_, if_neg (by omega)]), trivial⟩ hP hD hS

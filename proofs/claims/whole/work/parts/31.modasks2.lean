abbrev w_X8_of : List Cond := Cond.code yX8_of cX8_of 3 (some .int) :: zAll
abbrev r_X8_of : Room := { frames := 3, cells := 0, slots := 0, locals := 67 }
theorem zd_X8_of : yX8_of.cls = RX8 ∧ yX8_of.cls ≠ "java/lang/invoke/MethodHandle" ∧ yX8_of.cls ≠ "java/lang/invoke/VarHandle" ∧ (parseMethodDescriptor yX8_of.desc).map (fun d => d.parameters.length) = some 2 := by decide +kernel
set_option maxHeartbeats 4000000 in
set_option maxRecDepth 100000 in
theorem c_X8_of (l : Launch) (D : va_G) (cy : Nat → ClassId) (sz : Nat) (bd : Nat → Nat) (um_ : Nat) (ln_ : Nat) (at_ : Nat) (iw_ : Bool) (f_ : Nat → Nat) (m_ : MT) (o1_ : Nat → Nat) (o2_ : Nat → Nat) (o3_ : Nat → Nat) (a_ : Int32) (v_ : Int32) (sb_ : Nat → Bool) (lc_ : Nat → Nat) (hw : TVok m_.1) (hR : RowR m_.1 f_) : zWi l yX8_of w_X8_of r_X8_of D cy [((bd 0), .inr (5, [.int (nI 0), .ref (bd 1), .ref (bd 2), .int (nI um_), .ref (bd 3), .ref (bd 4), .ref (bd 5), .int (nI ln_), .int (nI at_), .int (if iw_ = true then 1 else 0), .ref (bd 6), .ref (bd 7), .ref (bd 8), .ref (bd 9), .ref (bd 10), .ref (bd 11), .ref (bd 12), .ref (bd 13), .ref (bd 14)])), ((bd 1), .inl (cy 0, 130, .inl (nIf f_))), ((bd 8), .inl (cy 0, 16, .inl (nIf o1_))), ((bd 9), .inl (cy 0, 16, .inl (nIf o2_))), ((bd 10), .inl (cy 0, 16, .inl (nIf o3_))), ((bd 13), .inl (cy 2, 16, .inl (nBf sb_))), ((bd 14), .inl (cy 0, 17, .inl (nIf lc_)))] sz [.ref (bd 0), .int a_, .int v_] (fun (r_ : Int32) (u : (Nat → Nat) × (Nat → Nat) × (Nat → Nat) × (Nat → Bool) × (Nat → Nat)) => r_ = (qOf m_ a_ v_) ∧ True) (fun u : (Nat → Nat) × (Nat → Nat) × (Nat → Nat) × (Nat → Bool) × (Nat → Nat) => ([((bd 0), .inr (5, [.int (nI 0), .ref (bd 1), .ref (bd 2), .int (nI um_), .ref (bd 3), .ref (bd 4), .ref (bd 5), .int (nI ln_), .int (nI at_), .int (if iw_ = true then 1 else 0), .ref (bd 6), .ref (bd 7), .ref (bd 8), .ref (bd 9), .ref (bd 10), .ref (bd 11), .ref (bd 12), .ref (bd 13), .ref (bd 14)])), ((bd 1), .inl (cy 0, 130, .inl (nIf f_))), ((bd 8), .inl (cy 0, 16, .inl (nIf u.1))), ((bd 9), .inl (cy 0, 16, .inl (nIf u.2.1))), ((bd 10), .inl (cy 0, 16, .inl (nIf u.2.2.1))), ((bd 13), .inl (cy 2, 16, .inl (nBf u.2.2.2.1))), ((bd 14), .inl (cy 0, 17, .inl (nIf u.2.2.2.2)))] : va_W)) := by
  refine zOfW (cc := cX8_of) (maxL := 3) (ty := .int) (by decide) rfl (Nat.le_of_ble_eq_true rfl) ?_
  intro zp ze zs zm za zb zme zc hx hb hml hts hown hP hK zA hD hA Q kr ls hl
  have hS : va_S zA zs.heap zs.heap [] := va_S.rf
  have hown : zs.vm.findClass RX8 = some zm.cls := hown
  have hl : lv_has ls 3 [(0, .ref (bd 0)), (1, .int a_), (2, .int v_)] := hl
  have hn2 := ok_2 hw
  have hn16 := ok_n hw
  have hC6 := ok_C hw
  have hwP := ok_P hw
  have hf0 : f_ 0 = mN m_ := hR.1
  have hf1 : f_ 1 = mC m_ := hR.2.1
  have hk0_ : (nI 0).toInt = 0 := rfl
  have hk9_ : (nI 999).toInt = 999 := rfl
  have hk8_ : (-999 : Int32).toInt = -999 := rfl
  refine lv_aload_n hx hb dX8_of_0 rfl (lv_at hl 0 rfl) ?_
  refine lv_iconst (v := nI 0) hx hb dX8_of_1 (by decide) ?_
  refine va_put (D := D) (ci := 5) (v := .int (nI 0)) (ty := .int) (C := RX8) (T := TX8) (N := 19) hx hb hts (fun w h => List.mem_cons_of_mem _ (zinX8 w h)) tyX8 tyX8_ok nmX8 hown hK.1 hP hD hS 0 rfl rfl 0 (by decide) (hts _ (List.mem_cons_of_mem _ zw_88)) (fun _ h9 => h9) rfl (tyX8_ok 0 (by decide)) rfl rfl (Nat.le_of_ble_eq_true rfl) dX8_of_2 (fun H locs hP hD hS => ?_)
  have hP : va_P D vwCl [((bd 0), .inr (5, [.int (nI 0), .ref (bd 1), .ref (bd 2), .int (nI um_), .ref (bd 3), .ref (bd 4), .ref (bd 5), .int (nI ln_), .int (nI at_), .int (if iw_ = true then 1 else 0), .ref (bd 6), .ref (bd 7), .ref (bd 8), .ref (bd 9), .ref (bd 10), .ref (bd 11), .ref (bd 12), .ref (bd 13), .ref (bd 14)])), ((bd 1), .inl (cy 0, 130, .inl (nIf f_))), ((bd 8), .inl (cy 0, 16, .inl (nIf o1_))), ((bd 9), .inl (cy 0, 16, .inl (nIf o2_))), ((bd 10), .inl (cy 0, 16, .inl (nIf o3_))), ((bd 13), .inl (cy 2, 16, .inl (nBf sb_))), ((bd 14), .inl (cy 0, 17, .inl (nIf lc_)))] H := hP
  have hD : va_D zA [((bd 0), .inr (5, [.int (nI 0), .ref (bd 1), .ref (bd 2), .int (nI um_), .ref (bd 3), .ref (bd 4), .ref (bd 5), .int (nI ln_), .int (nI at_), .int (if iw_ = true then 1 else 0), .ref (bd 6), .ref (bd 7), .ref (bd 8), .ref (bd 9), .ref (bd 10), .ref (bd 11), .ref (bd 12), .ref (bd 13), .ref (bd 14)])), ((bd 1), .inl (cy 0, 130, .inl (nIf f_))), ((bd 8), .inl (cy 0, 16, .inl (nIf o1_))), ((bd 9), .inl (cy 0, 16, .inl (nIf o2_))), ((bd 10), .inl (cy 0, 16, .inl (nIf o3_))), ((bd 13), .inl (cy 2, 16, .inl (nBf sb_))), ((bd 14), .inl (cy 0, 17, .inl (nIf lc_)))] := hD
  refine lv_aload_n hx hb dX8_of_5 rfl (lv_at hl 0 rfl) ?_
  refine lv_iload_n hx hb dX8_of_6 rfl (lv_at hl 1 rfl) ?_
  refine zcRi (As := [.int a_]) (rest := []) ⟨hx, hb, hml, hown, hts⟩ (c_X8_isMarkOrTrick l D cy bd um_ ln_ at_ iw_ f_ a_ (by omega)) (cwV 1 hts (zG_V zw_494 zw_495 zw_496 zw_5 zw_497) rfl rfl rfl zd_X8_isMarkOrTrick ⟨Nat.le_of_ble_eq_true rfl, Nat.le_of_ble_eq_true rfl⟩) hK hP [0, 1] rfl rfl rfl rfl rfl hl.1 rfl (Nat.le_of_ble_eq_true rfl) dX8_of_7 ⟨Nat.zero_le _, Nat.zero_le _⟩ (fun r7 h7 => ?_)
  subst h7
  refine zq_ne (tgt := 15) hx hb dX8_of_10 (by decide) (fun c10 => ?_) (fun c10 => ?_)
  · skip
    have ha : bMT m_ a_ = true := bMT_iff.mpr (by omega)
    obtain ⟨xa_, hxa_⟩ : ∃ zz_, zz_ = mkT m_ a_ := ⟨_, rfl⟩
    have hXa := fetch_K hR ha o1_
    have hwa := mkT_WF hw ha
    rw [← hxa_] at hXa
    rw [← hf0, ← hxa_] at hwa
    refine lv_aload_n hx hb dX8_of_15 rfl (lv_at hl 0 rfl) ?_
    refine lv_aload_n hx hb dX8_of_16 rfl (lv_at hl 0 rfl) ?_
    refine va_get (D := D) (ci := 5) (v := .ref (bd 8)) (C := RX8) (T := TX8) (N := 19) hx hb hts (fun w h => List.mem_cons_of_mem _ (zinX8 w h)) hown hK.1 hP 0 rfl rfl 12 (by decide) (hts _ (List.mem_cons_of_mem _ zw_81)) (fun _ h9 => h9) rfl dX8_of_17 ?_
    refine lv_iload_n hx hb dX8_of_20 rfl (lv_at hl 1 rfl) ?_
    refine zcWv (As := [.ref (bd 8), .int a_]) (rest := []) (wr := [((bd 9), .inl (cy 0, 16, .inl (nIf o2_))), ((bd 10), .inl (cy 0, 16, .inl (nIf o3_))), ((bd 13), .inl (cy 2, 16, .inl (nBf sb_))), ((bd 14), .inl (cy 0, 17, .inl (nIf lc_)))]) ⟨hx, hb, hml, hown, hts⟩ (c_X8_fetches l D cy H.size bd um_ ln_ at_ iw_ f_ (bd 8) o1_ a_ (by omega) (by rcases bMT_iff.mp ha with q_ | q_; exact Or.inl q_; exact Or.inr ⟨q_.1, by omega⟩)) (cwV 2 hts (zG_V zw_257 zw_258 zw_259 zw_5 zw_260) rfl rfl rfl zd_X8_fetches ⟨Nat.le_of_ble_eq_true rfl, Nat.le_of_ble_eq_true rfl⟩) hK hP hD hS hA [0, 1, 2] [3, 4, 5, 6] [4, 5, 6, 0, 1, 2, 3] rfl (by decide) rfl (by decide) (by decide) (w2 := (fun u_ : Unit => ([((bd 0), .inr (5, [.int (nI 0), .ref (bd 1), .ref (bd 2), .int (nI um_), .ref (bd 3), .ref (bd 4), .ref (bd 5), .int (nI ln_), .int (nI at_), .int (if iw_ = true then 1 else 0), .ref (bd 6), .ref (bd 7), .ref (bd 8), .ref (bd 9), .ref (bd 10), .ref (bd 11), .ref (bd 12), .ref (bd 13), .ref (bd 14)])), ((bd 1), .inl (cy 0, 130, .inl (nIf f_))), ((bd 8), .inl (cy 0, 16, .inl (nIf (fil (gTo f_ a_) o1_ (f_ 0))))), ((bd 9), .inl (cy 0, 16, .inl (nIf o2_))), ((bd 10), .inl (cy 0, 16, .inl (nIf o3_))), ((bd 13), .inl (cy 2, 16, .inl (nBf sb_))), ((bd 14), .inl (cy 0, 17, .inl (nIf lc_)))] : va_W))) (fun _ => rfl) (by decide) rfl rfl rfl rfl hl.1 rfl (Nat.le_of_ble_eq_true rfl) dX8_of_21 ⟨Nat.zero_le _, Nat.zero_le _⟩ (fun  u21 H locs h21 hP hD hS => ?_)
    have h21 : True := h21
    have hP : va_P D vwCl [((bd 0), .inr (5, [.int (nI 0), .ref (bd 1), .ref (bd 2), .int (nI um_), .ref (bd 3), .ref (bd 4), .ref (bd 5), .int (nI ln_), .int (nI at_), .int (if iw_ = true then 1 else 0), .ref (bd 6), .ref (bd 7), .ref (bd 8), .ref (bd 9), .ref (bd 10), .ref (bd 11), .ref (bd 12), .ref (bd 13), .ref (bd 14)])), ((bd 1), .inl (cy 0, 130, .inl (nIf f_))), ((bd 8), .inl (cy 0, 16, .inl (nIf (fil (gTo f_ a_) o1_ (f_ 0))))), ((bd 9), .inl (cy 0, 16, .inl (nIf o2_))), ((bd 10), .inl (cy 0, 16, .inl (nIf o3_))), ((bd 13), .inl (cy 2, 16, .inl (nBf sb_))), ((bd 14), .inl (cy 0, 17, .inl (nIf lc_)))] H := hP
    have hD : va_D zA [((bd 0), .inr (5, [.int (nI 0), .ref (bd 1), .ref (bd 2), .int (nI um_), .ref (bd 3), .ref (bd 4), .ref (bd 5), .int (nI ln_), .int (nI at_), .int (if iw_ = true then 1 else 0), .ref (bd 6), .ref (bd 7), .ref (bd 8), .ref (bd 9), .ref (bd 10), .ref (bd 11), .ref (bd 12), .ref (bd 13), .ref (bd 14)])), ((bd 1), .inl (cy 0, 130, .inl (nIf f_))), ((bd 8), .inl (cy 0, 16, .inl (nIf (fil (gTo f_ a_) o1_ (f_ 0))))), ((bd 9), .inl (cy 0, 16, .inl (nIf o2_))), ((bd 10), .inl (cy 0, 16, .inl (nIf o3_))), ((bd 13), .inl (cy 2, 16, .inl (nBf sb_))), ((bd 14), .inl (cy 0, 17, .inl (nIf lc_)))] := hD
    refine lv_iload_n hx hb dX8_of_24 rfl (lv_at hl 2 rfl) ?_
    have hsw25 : (v_).toInt = (v_).toInt := rfl
    rcases (show (v_).toInt = 0 ∨ (v_).toInt = 1 ∨ (v_).toInt = 2 ∨ (v_).toInt = 3 ∨ (v_).toInt = 4 ∨ (v_).toInt = 5 ∨ (v_).toInt = 6 ∨ ((v_).toInt < 0 ∨ 6 < (v_).toInt) by omega) with c25 | c25 | c25 | c25 | c25 | c25 | c25 | c25
    · refine lv_tableIn (tgt := 68) (off := 43) hx hb dX8_of_25 (by rw [hsw25, c25]; decide) (by rw [hsw25, c25]; decide) (by rw [hsw25, c25]; rfl) (by decide) ?_
      refine lv_aload_n hx hb dX8_of_68 rfl (lv_at hl 0 rfl) ?_
      refine lv_aload_n hx hb dX8_of_69 rfl (lv_at hl 0 rfl) ?_
      refine va_get (D := D) (ci := 5) (v := .ref (bd 8)) (C := RX8) (T := TX8) (N := 19) hx hb hts (fun w h => List.mem_cons_of_mem _ (zinX8 w h)) hown hK.1 hP 0 rfl rfl 12 (by decide) (hts _ (List.mem_cons_of_mem _ zw_81)) (fun _ h9 => h9) rfl dX8_of_70 ?_
      refine zcWi (As := [.ref (bd 8)]) (rest := []) (wr := [((bd 9), .inl (cy 0, 16, .inl (nIf o2_))), ((bd 10), .inl (cy 0, 16, .inl (nIf o3_)))]) ⟨hx, hb, hml, hown, hts⟩ (c_X8_order l D cy H.size bd um_ ln_ at_ iw_ f_ (bd 8) (fil (gTo f_ a_) o1_ (f_ 0)) xa_ lc_ sb_ (by omega) hXa hwa) (cwV 1 hts (zG_V zw_498 zw_499 zw_500 zw_5 zw_501) rfl rfl rfl zd_X8_order ⟨Nat.le_of_ble_eq_true rfl, Nat.le_of_ble_eq_true rfl⟩) hK hP hD hS hA [0, 1, 2, 5, 6] [3, 4] [2, 3, 4, 0, 1, 5, 6] rfl (by decide) rfl (by decide) (by decide) (w2 := (fun u_ : (Nat → Nat) × (Nat → Bool) => ([((bd 0), .inr (5, [.int (nI 0), .ref (bd 1), .ref (bd 2), .int (nI um_), .ref (bd 3), .ref (bd 4), .ref (bd 5), .int (nI ln_), .int (nI at_), .int (if iw_ = true then 1 else 0), .ref (bd 6), .ref (bd 7), .ref (bd 8), .ref (bd 9), .ref (bd 10), .ref (bd 11), .ref (bd 12), .ref (bd 13), .ref (bd 14)])), ((bd 1), .inl (cy 0, 130, .inl (nIf f_))), ((bd 8), .inl (cy 0, 16, .inl (nIf (fil (gTo f_ a_) o1_ (f_ 0))))), ((bd 9), .inl (cy 0, 16, .inl (nIf o2_))), ((bd 10), .inl (cy 0, 16, .inl (nIf o3_))), ((bd 13), .inl (cy 2, 16, .inl (nBf u_.2))), ((bd 14), .inl (cy 0, 17, .inl (nIf u_.1)))] : va_W))) (fun _ => rfl) (by decide) rfl rfl rfl rfl hl.1 rfl (Nat.le_of_ble_eq_true rfl) dX8_of_73 ⟨Nat.zero_le _, Nat.zero_le _⟩ (fun r73 u73 H locs h73 hP hD hS => ?_)
      obtain ⟨w_73, b_73⟩ := u73
      obtain ⟨hr73, h73⟩ := h73
      have hr73 : r73 = nI (ordF (cnt xa_ (f_ 0)) 17) := hr73
      have h73 : True := h73
      subst hr73
      have hP : va_P D vwCl [((bd 0), .inr (5, [.int (nI 0), .ref (bd 1), .ref (bd 2), .int (nI um_), .ref (bd 3), .ref (bd 4), .ref (bd 5), .int (nI ln_), .int (nI at_), .int (if iw_ = true then 1 else 0), .ref (bd 6), .ref (bd 7), .ref (bd 8), .ref (bd 9), .ref (bd 10), .ref (bd 11), .ref (bd 12), .ref (bd 13), .ref (bd 14)])), ((bd 1), .inl (cy 0, 130, .inl (nIf f_))), ((bd 8), .inl (cy 0, 16, .inl (nIf (fil (gTo f_ a_) o1_ (f_ 0))))), ((bd 9), .inl (cy 0, 16, .inl (nIf o2_))), ((bd 10), .inl (cy 0, 16, .inl (nIf o3_))), ((bd 13), .inl (cy 2, 16, .inl (nBf b_73))), ((bd 14), .inl (cy 0, 17, .inl (nIf w_73)))] H := hP
      have hD : va_D zA [((bd 0), .inr (5, [.int (nI 0), .ref (bd 1), .ref (bd 2), .int (nI um_), .ref (bd 3), .ref (bd 4), .ref (bd 5), .int (nI ln_), .int (nI at_), .int (if iw_ = true then 1 else 0), .ref (bd 6), .ref (bd 7), .ref (bd 8), .ref (bd 9), .ref (bd 10), .ref (bd 11), .ref (bd 12), .ref (bd 13), .ref (bd 14)])), ((bd 1), .inl (cy 0, 130, .inl (nIf f_))), ((bd 8), .inl (cy 0, 16, .inl (nIf (fil (gTo f_ a_) o1_ (f_ 0))))), ((bd 9), .inl (cy 0, 16, .inl (nIf o2_))), ((bd 10), .inl (cy 0, 16, .inl (nIf o3_))), ((bd 13), .inl (cy 2, 16, .inl (nBf b_73))), ((bd 14), .inl (cy 0, 17, .inl (nIf w_73)))] := hD
      exact kr _ ((fil (gTo f_ a_) o1_ (f_ 0)), o2_, o3_, b_73, w_73) _ _ _ _ dX8_of_76 (vp_nar_int _) ⟨(by unfold qOf; rw [if_pos ha, if_pos c25, ← hxa_, ← hf0]), trivial⟩ hP hD hS
    · refine lv_tableIn (tgt := 77) (off := 52) hx hb dX8_of_25 (by rw [hsw25, c25]; decide) (by rw [hsw25, c25]; decide) (by rw [hsw25, c25]; rfl) (by decide) ?_
      refine lv_aload_n hx hb dX8_of_77 rfl (lv_at hl 0 rfl) ?_
      refine lv_aload_n hx hb dX8_of_78 rfl (lv_at hl 0 rfl) ?_
      refine va_get (D := D) (ci := 5) (v := .ref (bd 8)) (C := RX8) (T := TX8) (N := 19) hx hb hts (fun w h => List.mem_cons_of_mem _ (zinX8 w h)) hown hK.1 hP 0 rfl rfl 12 (by decide) (hts _ (List.mem_cons_of_mem _ zw_81)) (fun _ h9 => h9) rfl dX8_of_79 ?_
      refine zcWi (As := [.ref (bd 8)]) (rest := []) (wr := [((bd 9), .inl (cy 0, 16, .inl (nIf o2_))), ((bd 10), .inl (cy 0, 16, .inl (nIf o3_)))]) ⟨hx, hb, hml, hown, hts⟩ (c_X8_cycles l D cy H.size bd um_ ln_ at_ iw_ f_ (bd 8) (fil (gTo f_ a_) o1_ (f_ 0)) xa_ lc_ sb_ (by omega) hXa hwa) (cwV 1 hts (zG_V zw_502 zw_503 zw_504 zw_5 zw_505) rfl rfl rfl zd_X8_cycles ⟨Nat.le_of_ble_eq_true rfl, Nat.le_of_ble_eq_true rfl⟩) hK hP hD hS hA [0, 1, 2, 5, 6] [3, 4] [2, 3, 4, 0, 1, 5, 6] rfl (by decide) rfl (by decide) (by decide) (w2 := (fun u_ : (Nat → Nat) × (Nat → Bool) => ([((bd 0), .inr (5, [.int (nI 0), .ref (bd 1), .ref (bd 2), .int (nI um_), .ref (bd 3), .ref (bd 4), .ref (bd 5), .int (nI ln_), .int (nI at_), .int (if iw_ = true then 1 else 0), .ref (bd 6), .ref (bd 7), .ref (bd 8), .ref (bd 9), .ref (bd 10), .ref (bd 11), .ref (bd 12), .ref (bd 13), .ref (bd 14)])), ((bd 1), .inl (cy 0, 130, .inl (nIf f_))), ((bd 8), .inl (cy 0, 16, .inl (nIf (fil (gTo f_ a_) o1_ (f_ 0))))), ((bd 9), .inl (cy 0, 16, .inl (nIf o2_))), ((bd 10), .inl (cy 0, 16, .inl (nIf o3_))), ((bd 13), .inl (cy 2, 16, .inl (nBf u_.2))), ((bd 14), .inl (cy 0, 17, .inl (nIf u_.1)))] : va_W))) (fun _ => rfl) (by decide) rfl rfl rfl rfl hl.1 rfl (Nat.le_of_ble_eq_true rfl) dX8_of_82 ⟨Nat.zero_le _, Nat.zero_le _⟩ (fun r82 u82 H locs h82 hP hD hS => ?_)
      obtain ⟨w_82, b_82⟩ := u82
      obtain ⟨hr82, h82⟩ := h82
      have hr82 : r82 = nI (howN xa_ (f_ 0)) := hr82
      have h82 : CntI xa_ (f_ 0) w_82 := h82
      subst hr82
      have hP : va_P D vwCl [((bd 0), .inr (5, [.int (nI 0), .ref (bd 1), .ref (bd 2), .int (nI um_), .ref (bd 3), .ref (bd 4), .ref (bd 5), .int (nI ln_), .int (nI at_), .int (if iw_ = true then 1 else 0), .ref (bd 6), .ref (bd 7), .ref (bd 8), .ref (bd 9), .ref (bd 10), .ref (bd 11), .ref (bd 12), .ref (bd 13), .ref (bd 14)])), ((bd 1), .inl (cy 0, 130, .inl (nIf f_))), ((bd 8), .inl (cy 0, 16, .inl (nIf (fil (gTo f_ a_) o1_ (f_ 0))))), ((bd 9), .inl (cy 0, 16, .inl (nIf o2_))), ((bd 10), .inl (cy 0, 16, .inl (nIf o3_))), ((bd 13), .inl (cy 2, 16, .inl (nBf b_82))), ((bd 14), .inl (cy 0, 17, .inl (nIf w_82)))] H := hP
      have hD : va_D zA [((bd 0), .inr (5, [.int (nI 0), .ref (bd 1), .ref (bd 2), .int (nI um_), .ref (bd 3), .ref (bd 4), .ref (bd 5), .int (nI ln_), .int (nI at_), .int (if iw_ = true then 1 else 0), .ref (bd 6), .ref (bd 7), .ref (bd 8), .ref (bd 9), .ref (bd 10), .ref (bd 11), .ref (bd 12), .ref (bd 13), .ref (bd 14)])), ((bd 1), .inl (cy 0, 130, .inl (nIf f_))), ((bd 8), .inl (cy 0, 16, .inl (nIf (fil (gTo f_ a_) o1_ (f_ 0))))), ((bd 9), .inl (cy 0, 16, .inl (nIf o2_))), ((bd 10), .inl (cy 0, 16, .inl (nIf o3_))), ((bd 13), .inl (cy 2, 16, .inl (nBf b_82))), ((bd 14), .inl (cy 0, 17, .inl (nIf w_82)))] := hD
      exact kr _ ((fil (gTo f_ a_) o1_ (f_ 0)), o2_, o3_, b_82, w_82) _ _ _ _ dX8_of_85 (vp_nar_int _) ⟨(by unfold qOf; rw [if_pos ha, if_neg (by omega), if_pos c25, ← hxa_, ← hf0]), trivial⟩ hP hD hS
    · refine lv_tableIn (tgt := 86) (off := 61) hx hb dX8_of_25 (by rw [hsw25, c25]; decide) (by rw [hsw25, c25]; decide) (by rw [hsw25, c25]; rfl) (by decide) ?_
      refine lv_aload_n hx hb dX8_of_86 rfl (lv_at hl 0 rfl) ?_
      refine lv_aload_n hx hb dX8_of_87 rfl (lv_at hl 0 rfl) ?_
      refine va_get (D := D) (ci := 5) (v := .ref (bd 8)) (C := RX8) (T := TX8) (N := 19) hx hb hts (fun w h => List.mem_cons_of_mem _ (zinX8 w h)) hown hK.1 hP 0 rfl rfl 12 (by decide) (hts _ (List.mem_cons_of_mem _ zw_81)) (fun _ h9 => h9) rfl dX8_of_88 ?_
      refine zcRi (As := [.ref (bd 8)]) (rest := []) ⟨hx, hb, hml, hown, hts⟩ (c_X8_fixed l D cy bd um_ ln_ at_ iw_ f_ (bd 8) (fil (gTo f_ a_) o1_ (f_ 0)) xa_ (by omega) hXa hwa) (cwV 1 hts (zG_V zw_509 zw_510 zw_511 zw_5 zw_512) rfl rfl rfl zd_X8_fixed ⟨Nat.le_of_ble_eq_true rfl, Nat.le_of_ble_eq_true rfl⟩) hK hP [0, 1, 2] rfl rfl rfl rfl rfl hl.1 rfl (Nat.le_of_ble_eq_true rfl) dX8_of_91 ⟨Nat.zero_le _, Nat.zero_le _⟩ (fun r91 h91 => ?_)
      subst h91
      exact kr _ ((fil (gTo f_ a_) o1_ (f_ 0)), o2_, o3_, sb_, lc_) _ _ _ _ dX8_of_94 (vp_nar_int _) ⟨(by unfold qOf; rw [if_pos ha, if_neg (by omega), if_neg (by omega), if_pos c25, ← hxa_, ← hf0]), trivial⟩ hP hD hS
    · refine lv_tableIn (tgt := 95) (off := 70) hx hb dX8_of_25 (by rw [hsw25, c25]; decide) (by rw [hsw25, c25]; decide) (by rw [hsw25, c25]; rfl) (by decide) ?_
      refine lv_aload_n hx hb dX8_of_95 rfl (lv_at hl 0 rfl) ?_
      refine lv_aload_n hx hb dX8_of_96 rfl (lv_at hl 0 rfl) ?_
      refine va_get (D := D) (ci := 5) (v := .ref (bd 8)) (C := RX8) (T := TX8) (N := 19) hx hb hts (fun w h => List.mem_cons_of_mem _ (zinX8 w h)) hown hK.1 hP 0 rfl rfl 12 (by decide) (hts _ (List.mem_cons_of_mem _ zw_81)) (fun _ h9 => h9) rfl dX8_of_97 ?_
      refine zcWi (As := [.ref (bd 8)]) (rest := []) (wr := [((bd 9), .inl (cy 0, 16, .inl (nIf o2_))), ((bd 10), .inl (cy 0, 16, .inl (nIf o3_)))]) ⟨hx, hb, hml, hown, hts⟩ (c_X8_longest l D cy H.size bd um_ ln_ at_ iw_ f_ (bd 8) (fil (gTo f_ a_) o1_ (f_ 0)) xa_ lc_ sb_ (by omega) hXa hwa) (cwV 1 hts (zG_V zw_513 zw_514 zw_515 zw_5 zw_516) rfl rfl rfl zd_X8_longest ⟨Nat.le_of_ble_eq_true rfl, Nat.le_of_ble_eq_true rfl⟩) hK hP hD hS hA [0, 1, 2, 5, 6] [3, 4] [2, 3, 4, 0, 1, 5, 6] rfl (by decide) rfl (by decide) (by decide) (w2 := (fun u_ : (Nat → Nat) × (Nat → Bool) => ([((bd 0), .inr (5, [.int (nI 0), .ref (bd 1), .ref (bd 2), .int (nI um_), .ref (bd 3), .ref (bd 4), .ref (bd 5), .int (nI ln_), .int (nI at_), .int (if iw_ = true then 1 else 0), .ref (bd 6), .ref (bd 7), .ref (bd 8), .ref (bd 9), .ref (bd 10), .ref (bd 11), .ref (bd 12), .ref (bd 13), .ref (bd 14)])), ((bd 1), .inl (cy 0, 130, .inl (nIf f_))), ((bd 8), .inl (cy 0, 16, .inl (nIf (fil (gTo f_ a_) o1_ (f_ 0))))), ((bd 9), .inl (cy 0, 16, .inl (nIf o2_))), ((bd 10), .inl (cy 0, 16, .inl (nIf o3_))), ((bd 13), .inl (cy 2, 16, .inl (nBf u_.2))), ((bd 14), .inl (cy 0, 17, .inl (nIf u_.1)))] : va_W))) (fun _ => rfl) (by decide) rfl rfl rfl rfl hl.1 rfl (Nat.le_of_ble_eq_true rfl) dX8_of_100 ⟨Nat.zero_le _, Nat.zero_le _⟩ (fun r100 u100 H locs h100 hP hD hS => ?_)
      obtain ⟨w_100, b_100⟩ := u100
      obtain ⟨hr100, h100⟩ := h100
      have hr100 : r100 = nI (lgst (cnt xa_ (f_ 0)) 17) := hr100
      have h100 : True := h100
      subst hr100
      have hP : va_P D vwCl [((bd 0), .inr (5, [.int (nI 0), .ref (bd 1), .ref (bd 2), .int (nI um_), .ref (bd 3), .ref (bd 4), .ref (bd 5), .int (nI ln_), .int (nI at_), .int (if iw_ = true then 1 else 0), .ref (bd 6), .ref (bd 7), .ref (bd 8), .ref (bd 9), .ref (bd 10), .ref (bd 11), .ref (bd 12), .ref (bd 13), .ref (bd 14)])), ((bd 1), .inl (cy 0, 130, .inl (nIf f_))), ((bd 8), .inl (cy 0, 16, .inl (nIf (fil (gTo f_ a_) o1_ (f_ 0))))), ((bd 9), .inl (cy 0, 16, .inl (nIf o2_))), ((bd 10), .inl (cy 0, 16, .inl (nIf o3_))), ((bd 13), .inl (cy 2, 16, .inl (nBf b_100))), ((bd 14), .inl (cy 0, 17, .inl (nIf w_100)))] H := hP
      have hD : va_D zA [((bd 0), .inr (5, [.int (nI 0), .ref (bd 1), .ref (bd 2), .int (nI um_), .ref (bd 3), .ref (bd 4), .ref (bd 5), .int (nI ln_), .int (nI at_), .int (if iw_ = true then 1 else 0), .ref (bd 6), .ref (bd 7), .ref (bd 8), .ref (bd 9), .ref (bd 10), .ref (bd 11), .ref (bd 12), .ref (bd 13), .ref (bd 14)])), ((bd 1), .inl (cy 0, 130, .inl (nIf f_))), ((bd 8), .inl (cy 0, 16, .inl (nIf (fil (gTo f_ a_) o1_ (f_ 0))))), ((bd 9), .inl (cy 0, 16, .inl (nIf o2_))), ((bd 10), .inl (cy 0, 16, .inl (nIf o3_))), ((bd 13), .inl (cy 2, 16, .inl (nBf b_100))), ((bd 14), .inl (cy 0, 17, .inl (nIf w_100)))] := hD
      exact kr _ ((fil (gTo f_ a_) o1_ (f_ 0)), o2_, o3_, b_100, w_100) _ _ _ _ dX8_of_103 (vp_nar_int _) ⟨(by unfold qOf; rw [if_pos ha, if_neg (by omega), if_neg (by omega), if_neg (by omega), if_pos c25, ← hxa_, ← hf0]), trivial⟩ hP hD hS
    · refine lv_tableIn (tgt := 104) (off := 79) hx hb dX8_of_25 (by rw [hsw25, c25]; decide) (by rw [hsw25, c25]; decide) (by rw [hsw25, c25]; rfl) (by decide) ?_
      refine lv_aload_n hx hb dX8_of_104 rfl (lv_at hl 0 rfl) ?_
      refine va_get (D := D) (ci := 5) (v := .ref (bd 1)) (C := RX8) (T := TX8) (N := 19) hx hb hts (fun w h => List.mem_cons_of_mem _ (zinX8 w h)) hown hK.1 hP 0 rfl rfl 1 (by decide) (hts _ (List.mem_cons_of_mem _ zw_74)) (fun _ h9 => h9) rfl dX8_of_105 ?_
      refine lv_iconst (v := nI 0) hx hb dX8_of_108 (by decide) ?_
      refine zi_iald (v := nI (f_ 0)) hx hb hK hP 1 rfl (by omega) (by omega) rfl dX8_of_109 ?_
      refine lv_aload_n hx hb dX8_of_110 rfl (lv_at hl 0 rfl) ?_
      refine lv_aload_n hx hb dX8_of_111 rfl (lv_at hl 0 rfl) ?_
      refine va_get (D := D) (ci := 5) (v := .ref (bd 8)) (C := RX8) (T := TX8) (N := 19) hx hb hts (fun w h => List.mem_cons_of_mem _ (zinX8 w h)) hown hK.1 hP 0 rfl rfl 12 (by decide) (hts _ (List.mem_cons_of_mem _ zw_81)) (fun _ h9 => h9) rfl dX8_of_112 ?_
      refine zcWi (As := [.ref (bd 8)]) (rest := [.int (nI (f_ 0))]) (wr := [((bd 9), .inl (cy 0, 16, .inl (nIf o2_))), ((bd 10), .inl (cy 0, 16, .inl (nIf o3_)))]) ⟨hx, hb, hml, hown, hts⟩ (c_X8_cycles l D cy H.size bd um_ ln_ at_ iw_ f_ (bd 8) (fil (gTo f_ a_) o1_ (f_ 0)) xa_ lc_ sb_ (by omega) hXa hwa) (cwV 1 hts (zG_V zw_502 zw_503 zw_504 zw_5 zw_505) rfl rfl rfl zd_X8_cycles ⟨Nat.le_of_ble_eq_true rfl, Nat.le_of_ble_eq_true rfl⟩) hK hP hD hS hA [0, 1, 2, 5, 6] [3, 4] [2, 3, 4, 0, 1, 5, 6] rfl (by decide) rfl (by decide) (by decide) (w2 := (fun u_ : (Nat → Nat) × (Nat → Bool) => ([((bd 0), .inr (5, [.int (nI 0), .ref (bd 1), .ref (bd 2), .int (nI um_), .ref (bd 3), .ref (bd 4), .ref (bd 5), .int (nI ln_), .int (nI at_), .int (if iw_ = true then 1 else 0), .ref (bd 6), .ref (bd 7), .ref (bd 8), .ref (bd 9), .ref (bd 10), .ref (bd 11), .ref (bd 12), .ref (bd 13), .ref (bd 14)])), ((bd 1), .inl (cy 0, 130, .inl (nIf f_))), ((bd 8), .inl (cy 0, 16, .inl (nIf (fil (gTo f_ a_) o1_ (f_ 0))))), ((bd 9), .inl (cy 0, 16, .inl (nIf o2_))), ((bd 10), .inl (cy 0, 16, .inl (nIf o3_))), ((bd 13), .inl (cy 2, 16, .inl (nBf u_.2))), ((bd 14), .inl (cy 0, 17, .inl (nIf u_.1)))] : va_W))) (fun _ => rfl) (by decide) rfl rfl rfl rfl hl.1 rfl (Nat.le_of_ble_eq_true rfl) dX8_of_115 ⟨Nat.zero_le _, Nat.zero_le _⟩ (fun r115 u115 H locs h115 hP hD hS => ?_)
      obtain ⟨w_115, b_115⟩ := u115
      obtain ⟨hr115, h115⟩ := h115
      have hr115 : r115 = nI (howN xa_ (f_ 0)) := hr115
      have h115 : CntI xa_ (f_ 0) w_115 := h115
      subst hr115
      have hP : va_P D vwCl [((bd 0), .inr (5, [.int (nI 0), .ref (bd 1), .ref (bd 2), .int (nI um_), .ref (bd 3), .ref (bd 4), .ref (bd 5), .int (nI ln_), .int (nI at_), .int (if iw_ = true then 1 else 0), .ref (bd 6), .ref (bd 7), .ref (bd 8), .ref (bd 9), .ref (bd 10), .ref (bd 11), .ref (bd 12), .ref (bd 13), .ref (bd 14)])), ((bd 1), .inl (cy 0, 130, .inl (nIf f_))), ((bd 8), .inl (cy 0, 16, .inl (nIf (fil (gTo f_ a_) o1_ (f_ 0))))), ((bd 9), .inl (cy 0, 16, .inl (nIf o2_))), ((bd 10), .inl (cy 0, 16, .inl (nIf o3_))), ((bd 13), .inl (cy 2, 16, .inl (nBf b_115))), ((bd 14), .inl (cy 0, 17, .inl (nIf w_115)))] H := hP
      have hD : va_D zA [((bd 0), .inr (5, [.int (nI 0), .ref (bd 1), .ref (bd 2), .int (nI um_), .ref (bd 3), .ref (bd 4), .ref (bd 5), .int (nI ln_), .int (nI at_), .int (if iw_ = true then 1 else 0), .ref (bd 6), .ref (bd 7), .ref (bd 8), .ref (bd 9), .ref (bd 10), .ref (bd 11), .ref (bd 12), .ref (bd 13), .ref (bd 14)])), ((bd 1), .inl (cy 0, 130, .inl (nIf f_))), ((bd 8), .inl (cy 0, 16, .inl (nIf (fil (gTo f_ a_) o1_ (f_ 0))))), ((bd 9), .inl (cy 0, 16, .inl (nIf o2_))), ((bd 10), .inl (cy 0, 16, .inl (nIf o3_))), ((bd 13), .inl (cy 2, 16, .inl (nBf b_115))), ((bd 14), .inl (cy 0, 17, .inl (nIf w_115)))] := hD
      have hh118 : howN xa_ (f_ 0) ≤ f_ 0 := how_le _ _
      refine zi_sub (v := nI ((f_ 0) - (howN xa_ (f_ 0)))) hx hb dX8_of_118 (pk_sub (by omega)) ?_
      refine lv_iconst (v := nI 2) hx hb dX8_of_119 (by decide) ?_
      refine zi_rem (v := nI (((f_ 0) - (howN xa_ (f_ 0))) % 2)) hx hb dX8_of_120 (nI_ne0 (by omega) (by omega)) (pk_rem (by omega) (by omega) (by omega)) ?_
      refine zb0_ne (a := ((f_ 0) - (howN xa_ (f_ 0))) % 2) (tgt := 128) hx hb dX8_of_121 (by decide) (by omega) (fun c121 => ?_) (fun c121 => ?_)
      · skip
        refine lv_iconst (v := nI 0) hx hb dX8_of_128 (by decide) ?_
        exact kr _ ((fil (gTo f_ a_) o1_ (f_ 0)), o2_, o3_, b_115, w_115) _ _ _ _ dX8_of_129 (vp_nar_int _) ⟨(by unfold qOf; rw [if_pos ha, if_neg (by omega), if_neg (by omega), if_neg (by omega), if_neg (by omega), if_pos c25, ← hxa_, ← hf0, if_neg c121]), trivial⟩ hP hD hS
      · skip
        refine lv_iconst (v := nI 2) hx hb dX8_of_124 (by decide) ?_
        refine lv_goto (tgt := 129) hx hb dX8_of_125 (by decide) ?_
        exact kr _ ((fil (gTo f_ a_) o1_ (f_ 0)), o2_, o3_, b_115, w_115) _ _ _ _ dX8_of_129 (vp_nar_int _) ⟨(by unfold qOf; rw [if_pos ha, if_neg (by omega), if_neg (by omega), if_neg (by omega), if_neg (by omega), if_pos c25, ← hxa_, ← hf0, if_pos c121]), trivial⟩ hP hD hS
    · refine lv_tableIn (tgt := 130) (off := 105) hx hb dX8_of_25 (by rw [hsw25, c25]; decide) (by rw [hsw25, c25]; decide) (by rw [hsw25, c25]; rfl) (by decide) ?_
      refine lv_aload_n hx hb dX8_of_130 rfl (lv_at hl 0 rfl) ?_
      refine lv_aload_n hx hb dX8_of_131 rfl (lv_at hl 0 rfl) ?_
      refine va_get (D := D) (ci := 5) (v := .ref (bd 8)) (C := RX8) (T := TX8) (N := 19) hx hb hts (fun w h => List.mem_cons_of_mem _ (zinX8 w h)) hown hK.1 hP 0 rfl rfl 12 (by decide) (hts _ (List.mem_cons_of_mem _ zw_81)) (fun _ h9 => h9) rfl dX8_of_132 ?_
      refine zcWi (As := [.ref (bd 8)]) (rest := []) (wr := [((bd 10), .inl (cy 0, 16, .inl (nIf o3_))), ((bd 13), .inl (cy 2, 16, .inl (nBf sb_))), ((bd 14), .inl (cy 0, 17, .inl (nIf lc_)))]) ⟨hx, hb, hml, hown, hts⟩ (c_X8_cutsWith l D cy H.size bd um_ ln_ at_ iw_ f_ (bd 8) (fil (gTo f_ a_) o1_ (f_ 0)) xa_ o2_ (by omega) hXa hwa) (cwV 1 hts (zG_V zw_517 zw_518 zw_519 zw_5 zw_520) rfl rfl rfl zd_X8_cutsWith ⟨Nat.le_of_ble_eq_true rfl, Nat.le_of_ble_eq_true rfl⟩) hK hP hD hS hA [0, 1, 2, 3] [4, 5, 6] [3, 4, 5, 6, 0, 1, 2] rfl (by decide) rfl (by decide) (by decide) (w2 := (fun u_ : (Nat → Nat) => ([((bd 0), .inr (5, [.int (nI 0), .ref (bd 1), .ref (bd 2), .int (nI um_), .ref (bd 3), .ref (bd 4), .ref (bd 5), .int (nI ln_), .int (nI at_), .int (if iw_ = true then 1 else 0), .ref (bd 6), .ref (bd 7), .ref (bd 8), .ref (bd 9), .ref (bd 10), .ref (bd 11), .ref (bd 12), .ref (bd 13), .ref (bd 14)])), ((bd 1), .inl (cy 0, 130, .inl (nIf f_))), ((bd 8), .inl (cy 0, 16, .inl (nIf (fil (gTo f_ a_) o1_ (f_ 0))))), ((bd 9), .inl (cy 0, 16, .inl (nIf u_))), ((bd 10), .inl (cy 0, 16, .inl (nIf o3_))), ((bd 13), .inl (cy 2, 16, .inl (nBf sb_))), ((bd 14), .inl (cy 0, 17, .inl (nIf lc_)))] : va_W))) (fun _ => rfl) (by decide) rfl rfl rfl rfl hl.1 rfl (Nat.le_of_ble_eq_true rfl) dX8_of_135 ⟨Nat.zero_le _, Nat.zero_le _⟩ (fun r135 u135 H locs h135 hP hD hS => ?_)
      obtain ⟨y2_135, rfl⟩ : ∃ z_, z_ = u135 := ⟨_, rfl⟩
      obtain ⟨hr135, h135⟩ := h135
      have hr135 : r135 = nI (cutM xa_ (f_ 0) (f_ 0)) := hr135
      have h135 : True := h135
      subst hr135
      have hP : va_P D vwCl [((bd 0), .inr (5, [.int (nI 0), .ref (bd 1), .ref (bd 2), .int (nI um_), .ref (bd 3), .ref (bd 4), .ref (bd 5), .int (nI ln_), .int (nI at_), .int (if iw_ = true then 1 else 0), .ref (bd 6), .ref (bd 7), .ref (bd 8), .ref (bd 9), .ref (bd 10), .ref (bd 11), .ref (bd 12), .ref (bd 13), .ref (bd 14)])), ((bd 1), .inl (cy 0, 130, .inl (nIf f_))), ((bd 8), .inl (cy 0, 16, .inl (nIf (fil (gTo f_ a_) o1_ (f_ 0))))), ((bd 9), .inl (cy 0, 16, .inl (nIf y2_135))), ((bd 10), .inl (cy 0, 16, .inl (nIf o3_))), ((bd 13), .inl (cy 2, 16, .inl (nBf sb_))), ((bd 14), .inl (cy 0, 17, .inl (nIf lc_)))] H := hP
      have hD : va_D zA [((bd 0), .inr (5, [.int (nI 0), .ref (bd 1), .ref (bd 2), .int (nI um_), .ref (bd 3), .ref (bd 4), .ref (bd 5), .int (nI ln_), .int (nI at_), .int (if iw_ = true then 1 else 0), .ref (bd 6), .ref (bd 7), .ref (bd 8), .ref (bd 9), .ref (bd 10), .ref (bd 11), .ref (bd 12), .ref (bd 13), .ref (bd 14)])), ((bd 1), .inl (cy 0, 130, .inl (nIf f_))), ((bd 8), .inl (cy 0, 16, .inl (nIf (fil (gTo f_ a_) o1_ (f_ 0))))), ((bd 9), .inl (cy 0, 16, .inl (nIf y2_135))), ((bd 10), .inl (cy 0, 16, .inl (nIf o3_))), ((bd 13), .inl (cy 2, 16, .inl (nBf sb_))), ((bd 14), .inl (cy 0, 17, .inl (nIf lc_)))] := hD
      exact kr _ ((fil (gTo f_ a_) o1_ (f_ 0)), y2_135, o3_, sb_, lc_) _ _ _ _ dX8_of_138 (vp_nar_int _) ⟨(by unfold qOf; rw [if_pos ha, if_neg (by omega), if_neg (by omega), if_neg (by omega), if_neg (by omega), if_neg (by omega), if_pos c25, ← hxa_, ← hf0]), trivial⟩ hP hD hS
    · refine lv_tableIn (tgt := 139) (off := 114) hx hb dX8_of_25 (by rw [hsw25, c25]; decide) (by rw [hsw25, c25]; decide) (by rw [hsw25, c25]; rfl) (by decide) ?_
      refine lv_aload_n hx hb dX8_of_139 rfl (lv_at hl 0 rfl) ?_
      refine lv_aload_n hx hb dX8_of_140 rfl (lv_at hl 0 rfl) ?_
      refine va_get (D := D) (ci := 5) (v := .ref (bd 9)) (C := RX8) (T := TX8) (N := 19) hx hb hts (fun w h => List.mem_cons_of_mem _ (zinX8 w h)) hown hK.1 hP 0 rfl rfl 13 (by decide) (hts _ (List.mem_cons_of_mem _ zw_82)) (fun _ h9 => h9) rfl dX8_of_141 ?_
      refine lv_aload_n hx hb dX8_of_144 rfl (lv_at hl 0 rfl) ?_
      refine va_get (D := D) (ci := 5) (v := .ref (bd 8)) (C := RX8) (T := TX8) (N := 19) hx hb hts (fun w h => List.mem_cons_of_mem _ (zinX8 w h)) hown hK.1 hP 0 rfl rfl 12 (by decide) (hts _ (List.mem_cons_of_mem _ zw_81)) (fun _ h9 => h9) rfl dX8_of_145 ?_
      refine zcWv (As := [.ref (bd 9), .ref (bd 8)]) (rest := []) (wr := [((bd 10), .inl (cy 0, 16, .inl (nIf o3_))), ((bd 13), .inl (cy 2, 16, .inl (nBf sb_))), ((bd 14), .inl (cy 0, 17, .inl (nIf lc_)))]) ⟨hx, hb, hml, hown, hts⟩ (c_X8_laysInverse l D cy H.size bd um_ ln_ at_ iw_ f_ (bd 9) o2_ (bd 8) (fil (gTo f_ a_) o1_ (f_ 0)) (by omega) (fun z_ hz_ => Nat.lt_of_lt_of_le (RowX.lt hXa hwa (by omega) hz_) (by omega)) (fun y_ z_ hy_ hz_ e_ => RowX.inj hXa hwa (by omega) hy_ hz_ e_)) (cwV 2 hts (zG_V zw_525 zw_526 zw_527 zw_5 zw_528) rfl rfl rfl zd_X8_laysInverse ⟨Nat.le_of_ble_eq_true rfl, Nat.le_of_ble_eq_true rfl⟩) hK hP hD hS hA [0, 1, 3, 2] [4, 5, 6] [3, 4, 6, 5, 0, 1, 2] rfl (by decide) rfl (by decide) (by decide) (w2 := (fun u_ : (Nat → Nat) => ([((bd 0), .inr (5, [.int (nI 0), .ref (bd 1), .ref (bd 2), .int (nI um_), .ref (bd 3), .ref (bd 4), .ref (bd 5), .int (nI ln_), .int (nI at_), .int (if iw_ = true then 1 else 0), .ref (bd 6), .ref (bd 7), .ref (bd 8), .ref (bd 9), .ref (bd 10), .ref (bd 11), .ref (bd 12), .ref (bd 13), .ref (bd 14)])), ((bd 1), .inl (cy 0, 130, .inl (nIf f_))), ((bd 8), .inl (cy 0, 16, .inl (nIf (fil (gTo f_ a_) o1_ (f_ 0))))), ((bd 9), .inl (cy 0, 16, .inl (nIf u_))), ((bd 10), .inl (cy 0, 16, .inl (nIf o3_))), ((bd 13), .inl (cy 2, 16, .inl (nBf sb_))), ((bd 14), .inl (cy 0, 17, .inl (nIf lc_)))] : va_W))) (fun _ => rfl) (by decide) rfl rfl rfl rfl hl.1 rfl (Nat.le_of_ble_eq_true rfl) dX8_of_148 ⟨Nat.zero_le _, Nat.zero_le _⟩ (fun  u148 H locs h148 hP hD hS => ?_)
      obtain ⟨w_148, rfl⟩ : ∃ z_, z_ = u148 := ⟨_, rfl⟩
      have h148 : ∀ z_, z_ < f_ 0 → w_148 ((fil (gTo f_ a_) o1_ (f_ 0)) z_) = z_ := h148
      have hP : va_P D vwCl [((bd 0), .inr (5, [.int (nI 0), .ref (bd 1), .ref (bd 2), .int (nI um_), .ref (bd 3), .ref (bd 4), .ref (bd 5), .int (nI ln_), .int (nI at_), .int (if iw_ = true then 1 else 0), .ref (bd 6), .ref (bd 7), .ref (bd 8), .ref (bd 9), .ref (bd 10), .ref (bd 11), .ref (bd 12), .ref (bd 13), .ref (bd 14)])), ((bd 1), .inl (cy 0, 130, .inl (nIf f_))), ((bd 8), .inl (cy 0, 16, .inl (nIf (fil (gTo f_ a_) o1_ (f_ 0))))), ((bd 9), .inl (cy 0, 16, .inl (nIf w_148))), ((bd 10), .inl (cy 0, 16, .inl (nIf o3_))), ((bd 13), .inl (cy 2, 16, .inl (nBf sb_))), ((bd 14), .inl (cy 0, 17, .inl (nIf lc_)))] H := hP
      have hD : va_D zA [((bd 0), .inr (5, [.int (nI 0), .ref (bd 1), .ref (bd 2), .int (nI um_), .ref (bd 3), .ref (bd 4), .ref (bd 5), .int (nI ln_), .int (nI at_), .int (if iw_ = true then 1 else 0), .ref (bd 6), .ref (bd 7), .ref (bd 8), .ref (bd 9), .ref (bd 10), .ref (bd 11), .ref (bd 12), .ref (bd 13), .ref (bd 14)])), ((bd 1), .inl (cy 0, 130, .inl (nIf f_))), ((bd 8), .inl (cy 0, 16, .inl (nIf (fil (gTo f_ a_) o1_ (f_ 0))))), ((bd 9), .inl (cy 0, 16, .inl (nIf w_148))), ((bd 10), .inl (cy 0, 16, .inl (nIf o3_))), ((bd 13), .inl (cy 2, 16, .inl (nBf sb_))), ((bd 14), .inl (cy 0, 17, .inl (nIf lc_)))] := hD
      have hXi := inv_X hXa hwa (by omega) h148
      have hwi := inv_WF hwa
      refine lv_aload_n hx hb dX8_of_151 rfl (lv_at hl 0 rfl) ?_
      refine lv_aload_n hx hb dX8_of_152 rfl (lv_at hl 0 rfl) ?_
      refine va_get (D := D) (ci := 5) (v := .ref (bd 9)) (C := RX8) (T := TX8) (N := 19) hx hb hts (fun w h => List.mem_cons_of_mem _ (zinX8 w h)) hown hK.1 hP 0 rfl rfl 13 (by decide) (hts _ (List.mem_cons_of_mem _ zw_82)) (fun _ h9 => h9) rfl dX8_of_153 ?_
      refine zcWi (As := [.ref (bd 9)]) (rest := []) (wr := [((bd 8), .inl (cy 0, 16, .inl (nIf (fil (gTo f_ a_) o1_ (f_ 0))))), ((bd 13), .inl (cy 2, 16, .inl (nBf sb_))), ((bd 14), .inl (cy 0, 17, .inl (nIf lc_)))]) ⟨hx, hb, hml, hown, hts⟩ (c_X8_markAs l D cy H.size bd um_ ln_ at_ iw_ f_ m_ (bd 9) w_148 (invL xa_) o3_ (by omega) (by omega) hXi hwi) (cwV 1 hts (zG_V zw_529 zw_530 zw_531 zw_5 zw_532) rfl rfl rfl zd_X8_markAs ⟨Nat.le_of_ble_eq_true rfl, Nat.le_of_ble_eq_true rfl⟩) hK hP hD hS hA [0, 1, 3, 4] [2, 5, 6] [3, 4, 0, 5, 6, 1, 2] rfl (by decide) rfl (by decide) (by decide) (w2 := (fun u_ : (Nat → Nat) => ([((bd 0), .inr (5, [.int (nI 0), .ref (bd 1), .ref (bd 2), .int (nI um_), .ref (bd 3), .ref (bd 4), .ref (bd 5), .int (nI ln_), .int (nI at_), .int (if iw_ = true then 1 else 0), .ref (bd 6), .ref (bd 7), .ref (bd 8), .ref (bd 9), .ref (bd 10), .ref (bd 11), .ref (bd 12), .ref (bd 13), .ref (bd 14)])), ((bd 1), .inl (cy 0, 130, .inl (nIf f_))), ((bd 8), .inl (cy 0, 16, .inl (nIf (fil (gTo f_ a_) o1_ (f_ 0))))), ((bd 9), .inl (cy 0, 16, .inl (nIf w_148))), ((bd 10), .inl (cy 0, 16, .inl (nIf u_))), ((bd 13), .inl (cy 2, 16, .inl (nBf sb_))), ((bd 14), .inl (cy 0, 17, .inl (nIf lc_)))] : va_W))) (fun _ => rfl) (by decide) rfl rfl rfl rfl hl.1 rfl (Nat.le_of_ble_eq_true rfl) dX8_of_156 ⟨Nat.zero_le _, Nat.zero_le _⟩ (fun r156 u156 H locs h156 hP hD hS => ?_)
      obtain ⟨y3_156, rfl⟩ : ∃ z_, z_ = u156 := ⟨_, rfl⟩
      obtain ⟨hr156, h156⟩ := h156
      have hr156 : r156 = lowM (mM m_) (mC m_) (invL xa_) := hr156
      have h156 : True := h156
      subst hr156
      have hP : va_P D vwCl [((bd 0), .inr (5, [.int (nI 0), .ref (bd 1), .ref (bd 2), .int (nI um_), .ref (bd 3), .ref (bd 4), .ref (bd 5), .int (nI ln_), .int (nI at_), .int (if iw_ = true then 1 else 0), .ref (bd 6), .ref (bd 7), .ref (bd 8), .ref (bd 9), .ref (bd 10), .ref (bd 11), .ref (bd 12), .ref (bd 13), .ref (bd 14)])), ((bd 1), .inl (cy 0, 130, .inl (nIf f_))), ((bd 8), .inl (cy 0, 16, .inl (nIf (fil (gTo f_ a_) o1_ (f_ 0))))), ((bd 9), .inl (cy 0, 16, .inl (nIf w_148))), ((bd 10), .inl (cy 0, 16, .inl (nIf y3_156))), ((bd 13), .inl (cy 2, 16, .inl (nBf sb_))), ((bd 14), .inl (cy 0, 17, .inl (nIf lc_)))] H := hP
      have hD : va_D zA [((bd 0), .inr (5, [.int (nI 0), .ref (bd 1), .ref (bd 2), .int (nI um_), .ref (bd 3), .ref (bd 4), .ref (bd 5), .int (nI ln_), .int (nI at_), .int (if iw_ = true then 1 else 0), .ref (bd 6), .ref (bd 7), .ref (bd 8), .ref (bd 9), .ref (bd 10), .ref (bd 11), .ref (bd 12), .ref (bd 13), .ref (bd 14)])), ((bd 1), .inl (cy 0, 130, .inl (nIf f_))), ((bd 8), .inl (cy 0, 16, .inl (nIf (fil (gTo f_ a_) o1_ (f_ 0))))), ((bd 9), .inl (cy 0, 16, .inl (nIf w_148))), ((bd 10), .inl (cy 0, 16, .inl (nIf y3_156))), ((bd 13), .inl (cy 2, 16, .inl (nBf sb_))), ((bd 14), .inl (cy 0, 17, .inl (nIf lc_)))] := hD
      exact kr _ ((fil (gTo f_ a_) o1_ (f_ 0)), w_148, y3_156, sb_, lc_) _ _ _ _ dX8_of_159 (vp_nar_int _) ⟨(by unfold qOf; rw [if_pos ha, if_neg (by omega), if_neg (by omega), if_neg (by omega), if_neg (by omega), if_neg (by omega), if_neg (by omega), if_pos c25, ← hxa_]), trivial⟩ hP hD hS
    · refine lv_tableOut (tgt := 160) hx hb dX8_of_25 (by rw [hsw25]; exact c25) (by decide) ?_
      refine lv_bipush (v := (-2)) hx hb dX8_of_160 (by decide) ?_
      exact kr _ ((fil (gTo f_ a_) o1_ (f_ 0)), o2_, o3_, sb_, lc_) _ _ _ _ dX8_of_162 (vp_nar_int _) ⟨(by unfold qOf; rw [if_pos ha, if_neg (by omega), if_neg (by omega), if_neg (by omega), if_neg (by omega), if_neg (by omega), if_neg (by omega), if_neg (by omega)]), trivial⟩ hP hD hS
  · skip
    refine lv_iconst (v := (-1)) hx hb dX8_of_13 (by decide) ?_
    exact kr _ (o1_, o2_, o3_, sb_, lc_) _ _ _ _ dX8_of_14 (vp_nar_int _) ⟨(by unfold qOf; rw [if_neg (fun q_ => c10 (by have := bMT_iff.mp q_; omega))]), trivial⟩ hP hD hS
abbrev w_X8_commuting : List Cond := Cond.code yX8_commuting cX8_commuting 6 (some .long) :: zAll
abbrev r_X8_commuting : Room := { frames := 3, cells := 0, slots := 0, locals := 64 }
theorem zd_X8_commuting : yX8_commuting.cls = RX8 ∧ yX8_commuting.cls ≠ "java/lang/invoke/MethodHandle" ∧ yX8_commuting.cls ≠ "java/lang/invoke/VarHandle" ∧ (parseMethodDescriptor yX8_commuting.desc).map (fun d => d.parameters.length) = some 1 := by decide +kernel
set_option maxHeartbeats 4000000 in
set_option maxRecDepth 100000 in
theorem c_X8_commuting (l : Launch) (D : va_G) (cy : Nat → ClassId) (sz : Nat) (bd : Nat → Nat) (um_ : Nat) (ln_ : Nat) (at_ : Nat) (iw_ : Bool) (f_ : Nat → Nat) (m_ : MT) (o1_ : Nat → Nat) (a_ : Int32) (sb_ : Nat → Bool) (lc_ : Nat → Nat) (hw : TVok m_.1) (hR : RowR m_.1 f_) : zWl l yX8_commuting w_X8_commuting r_X8_commuting D cy [((bd 0), .inr (5, [.int (nI 0), .ref (bd 1), .ref (bd 2), .int (nI um_), .ref (bd 3), .ref (bd 4), .ref (bd 5), .int (nI ln_), .int (nI at_), .int (if iw_ = true then 1 else 0), .ref (bd 6), .ref (bd 7), .ref (bd 8), .ref (bd 9), .ref (bd 10), .ref (bd 11), .ref (bd 12), .ref (bd 13), .ref (bd 14)])), ((bd 1), .inl (cy 0, 130, .inl (nIf f_))), ((bd 8), .inl (cy 0, 16, .inl (nIf o1_))), ((bd 13), .inl (cy 2, 16, .inl (nBf sb_))), ((bd 14), .inl (cy 0, 17, .inl (nIf lc_)))] sz [.ref (bd 0), .int a_] (fun (r_ : Int64) (u : (Nat → Nat) × (Nat → Bool) × (Nat → Nat)) => r_ = (qCommuting m_ a_) ∧ True) (fun u : (Nat → Nat) × (Nat → Bool) × (Nat → Nat) => ([((bd 0), .inr (5, [.int (nI 0), .ref (bd 1), .ref (bd 2), .int (nI um_), .ref (bd 3), .ref (bd 4), .ref (bd 5), .int (nI ln_), .int (nI at_), .int (if iw_ = true then 1 else 0), .ref (bd 6), .ref (bd 7), .ref (bd 8), .ref (bd 9), .ref (bd 10), .ref (bd 11), .ref (bd 12), .ref (bd 13), .ref (bd 14)])), ((bd 1), .inl (cy 0, 130, .inl (nIf f_))), ((bd 8), .inl (cy 0, 16, .inl (nIf u.1))), ((bd 13), .inl (cy 2, 16, .inl (nBf u.2.1))), ((bd 14), .inl (cy 0, 17, .inl (nIf u.2.2)))] : va_W)) := by
  refine zOfWl (cc := cX8_commuting) (maxL := 6) (by decide) rfl (Nat.le_of_ble_eq_true rfl) ?_
  intro zp ze zs zm za zb zme zc hx hb hml hts hown hP hK zA hD hA Q kr ls hl
  have hS : va_S zA zs.heap zs.heap [] := va_S.rf
  have hown : zs.vm.findClass RX8 = some zm.cls := hown
  have hl : lv_has ls 6 [(0, .ref (bd 0)), (1, .int a_)] := hl
  have hn2 := ok_2 hw
  have hn16 := ok_n hw
  have hC6 := ok_C hw
  have hwP := ok_P hw
  have hf0 : f_ 0 = mN m_ := hR.1
  have hf1 : f_ 1 = mC m_ := hR.2.1
  have hk0_ : (nI 0).toInt = 0 := rfl
  have hk9_ : (nI 999).toInt = 999 := rfl
  have hk8_ : (-999 : Int32).toInt = -999 := rfl
  refine lv_aload_n hx hb dX8_commuting_0 rfl (lv_at hl 0 rfl) ?_
  refine lv_iconst (v := nI 0) hx hb dX8_commuting_1 (by decide) ?_
  refine va_put (D := D) (ci := 5) (v := .int (nI 0)) (ty := .int) (C := RX8) (T := TX8) (N := 19) hx hb hts (fun w h => List.mem_cons_of_mem _ (zinX8 w h)) tyX8 tyX8_ok nmX8 hown hK.1 hP hD hS 0 rfl rfl 0 (by decide) (hts _ (List.mem_cons_of_mem _ zw_88)) (fun _ h9 => h9) rfl (tyX8_ok 0 (by decide)) rfl rfl (Nat.le_of_ble_eq_true rfl) dX8_commuting_2 (fun H locs hP hD hS => ?_)
  have hP : va_P D vwCl [((bd 0), .inr (5, [.int (nI 0), .ref (bd 1), .ref (bd 2), .int (nI um_), .ref (bd 3), .ref (bd 4), .ref (bd 5), .int (nI ln_), .int (nI at_), .int (if iw_ = true then 1 else 0), .ref (bd 6), .ref (bd 7), .ref (bd 8), .ref (bd 9), .ref (bd 10), .ref (bd 11), .ref (bd 12), .ref (bd 13), .ref (bd 14)])), ((bd 1), .inl (cy 0, 130, .inl (nIf f_))), ((bd 8), .inl (cy 0, 16, .inl (nIf o1_))), ((bd 13), .inl (cy 2, 16, .inl (nBf sb_))), ((bd 14), .inl (cy 0, 17, .inl (nIf lc_)))] H := hP
  have hD : va_D zA [((bd 0), .inr (5, [.int (nI 0), .ref (bd 1), .ref (bd 2), .int (nI um_), .ref (bd 3), .ref (bd 4), .ref (bd 5), .int (nI ln_), .int (nI at_), .int (if iw_ = true then 1 else 0), .ref (bd 6), .ref (bd 7), .ref (bd 8), .ref (bd 9), .ref (bd 10), .ref (bd 11), .ref (bd 12), .ref (bd 13), .ref (bd 14)])), ((bd 1), .inl (cy 0, 130, .inl (nIf f_))), ((bd 8), .inl (cy 0, 16, .inl (nIf o1_))), ((bd 13), .inl (cy 2, 16, .inl (nBf sb_))), ((bd 14), .inl (cy 0, 17, .inl (nIf lc_)))] := hD
  refine lv_aload_n hx hb dX8_commuting_5 rfl (lv_at hl 0 rfl) ?_
  refine lv_iload_n hx hb dX8_commuting_6 rfl (lv_at hl 1 rfl) ?_
  refine zcRi (As := [.int a_]) (rest := []) ⟨hx, hb, hml, hown, hts⟩ (c_X8_isMarkOrTrick l D cy bd um_ ln_ at_ iw_ f_ a_ (by omega)) (cwV 1 hts (zG_V zw_494 zw_495 zw_496 zw_5 zw_497) rfl rfl rfl zd_X8_isMarkOrTrick ⟨Nat.le_of_ble_eq_true rfl, Nat.le_of_ble_eq_true rfl⟩) hK hP [0, 1] rfl rfl rfl rfl rfl hl.1 rfl (Nat.le_of_ble_eq_true rfl) dX8_commuting_7 ⟨Nat.zero_le _, Nat.zero_le _⟩ (fun r7 h7 => ?_)
  subst h7
  refine zq_ne (tgt := 17) hx hb dX8_commuting_10 (by decide) (fun c10 => ?_) (fun c10 => ?_)
  · skip
    have ha : bMT m_ a_ = true := bMT_iff.mpr (by omega)
    obtain ⟨xa_, hxa_⟩ : ∃ zz_, zz_ = mkT m_ a_ := ⟨_, rfl⟩
    have hXa := fetch_K hR ha o1_
    have hwa := mkT_WF hw ha
    rw [← hxa_] at hXa
    rw [← hf0, ← hxa_] at hwa
    refine lv_aload_n hx hb dX8_commuting_17 rfl (lv_at hl 0 rfl) ?_
    refine lv_aload_n hx hb dX8_commuting_18 rfl (lv_at hl 0 rfl) ?_
    refine va_get (D := D) (ci := 5) (v := .ref (bd 8)) (C := RX8) (T := TX8) (N := 19) hx hb hts (fun w h => List.mem_cons_of_mem _ (zinX8 w h)) hown hK.1 hP 0 rfl rfl 12 (by decide) (hts _ (List.mem_cons_of_mem _ zw_81)) (fun _ h9 => h9) rfl dX8_commuting_19 ?_
    refine lv_iload_n hx hb dX8_commuting_22 rfl (lv_at hl 1 rfl) ?_
    refine zcWv (As := [.ref (bd 8), .int a_]) (rest := []) (wr := [((bd 13), .inl (cy 2, 16, .inl (nBf sb_))), ((bd 14), .inl (cy 0, 17, .inl (nIf lc_)))]) ⟨hx, hb, hml, hown, hts⟩ (c_X8_fetches l D cy H.size bd um_ ln_ at_ iw_ f_ (bd 8) o1_ a_ (by omega) (by rcases bMT_iff.mp ha with q_ | q_; exact Or.inl q_; exact Or.inr ⟨q_.1, by omega⟩)) (cwV 2 hts (zG_V zw_257 zw_258 zw_259 zw_5 zw_260) rfl rfl rfl zd_X8_fetches ⟨Nat.le_of_ble_eq_true rfl, Nat.le_of_ble_eq_true rfl⟩) hK hP hD hS hA [0, 1, 2] [3, 4] [2, 3, 4, 0, 1] rfl (by decide) rfl (by decide) (by decide) (w2 := (fun u_ : Unit => ([((bd 0), .inr (5, [.int (nI 0), .ref (bd 1), .ref (bd 2), .int (nI um_), .ref (bd 3), .ref (bd 4), .ref (bd 5), .int (nI ln_), .int (nI at_), .int (if iw_ = true then 1 else 0), .ref (bd 6), .ref (bd 7), .ref (bd 8), .ref (bd 9), .ref (bd 10), .ref (bd 11), .ref (bd 12), .ref (bd 13), .ref (bd 14)])), ((bd 1), .inl (cy 0, 130, .inl (nIf f_))), ((bd 8), .inl (cy 0, 16, .inl (nIf (fil (gTo f_ a_) o1_ (f_ 0))))), ((bd 13), .inl (cy 2, 16, .inl (nBf sb_))), ((bd 14), .inl (cy 0, 17, .inl (nIf lc_)))] : va_W))) (fun _ => rfl) (by decide) rfl rfl rfl rfl hl.1 rfl (Nat.le_of_ble_eq_true rfl) dX8_commuting_23 ⟨Nat.zero_le _, Nat.zero_le _⟩ (fun  u23 H locs h23 hP hD hS => ?_)
    have h23 : True := h23
    have hP : va_P D vwCl [((bd 0), .inr (5, [.int (nI 0), .ref (bd 1), .ref (bd 2), .int (nI um_), .ref (bd 3), .ref (bd 4), .ref (bd 5), .int (nI ln_), .int (nI at_), .int (if iw_ = true then 1 else 0), .ref (bd 6), .ref (bd 7), .ref (bd 8), .ref (bd 9), .ref (bd 10), .ref (bd 11), .ref (bd 12), .ref (bd 13), .ref (bd 14)])), ((bd 1), .inl (cy 0, 130, .inl (nIf f_))), ((bd 8), .inl (cy 0, 16, .inl (nIf (fil (gTo f_ a_) o1_ (f_ 0))))), ((bd 13), .inl (cy 2, 16, .inl (nBf sb_))), ((bd 14), .inl (cy 0, 17, .inl (nIf lc_)))] H := hP
    have hD : va_D zA [((bd 0), .inr (5, [.int (nI 0), .ref (bd 1), .ref (bd 2), .int (nI um_), .ref (bd 3), .ref (bd 4), .ref (bd 5), .int (nI ln_), .int (nI at_), .int (if iw_ = true then 1 else 0), .ref (bd 6), .ref (bd 7), .ref (bd 8), .ref (bd 9), .ref (bd 10), .ref (bd 11), .ref (bd 12), .ref (bd 13), .ref (bd 14)])), ((bd 1), .inl (cy 0, 130, .inl (nIf f_))), ((bd 8), .inl (cy 0, 16, .inl (nIf (fil (gTo f_ a_) o1_ (f_ 0))))), ((bd 13), .inl (cy 2, 16, .inl (nBf sb_))), ((bd 14), .inl (cy 0, 17, .inl (nIf lc_)))] := hD
    refine lv_aload_n hx hb dX8_commuting_26 rfl (lv_at hl 0 rfl) ?_
    refine lv_aload_n hx hb dX8_commuting_27 rfl (lv_at hl 0 rfl) ?_
    refine va_get (D := D) (ci := 5) (v := .ref (bd 8)) (C := RX8) (T := TX8) (N := 19) hx hb hts (fun w h => List.mem_cons_of_mem _ (zinX8 w h)) hown hK.1 hP 0 rfl rfl 12 (by decide) (hts _ (List.mem_cons_of_mem _ zw_81)) (fun _ h9 => h9) rfl dX8_commuting_28 ?_
    refine zcWi (As := [.ref (bd 8)]) (rest := []) (wr := []) ⟨hx, hb, hml, hown, hts⟩ (c_X8_cycles l D cy H.size bd um_ ln_ at_ iw_ f_ (bd 8) (fil (gTo f_ a_) o1_ (f_ 0)) xa_ lc_ sb_ (by omega) hXa hwa) (cwV 1 hts (zG_V zw_502 zw_503 zw_504 zw_5 zw_505) rfl rfl rfl zd_X8_cycles ⟨Nat.le_of_ble_eq_true rfl, Nat.le_of_ble_eq_true rfl⟩) hK hP hD hS hA [0, 1, 2, 3, 4] [] [0, 1, 2, 3, 4] rfl (by decide) rfl (by decide) (by decide) (w2 := (fun u_ : (Nat → Nat) × (Nat → Bool) => ([((bd 0), .inr (5, [.int (nI 0), .ref (bd 1), .ref (bd 2), .int (nI um_), .ref (bd 3), .ref (bd 4), .ref (bd 5), .int (nI ln_), .int (nI at_), .int (if iw_ = true then 1 else 0), .ref (bd 6), .ref (bd 7), .ref (bd 8), .ref (bd 9), .ref (bd 10), .ref (bd 11), .ref (bd 12), .ref (bd 13), .ref (bd 14)])), ((bd 1), .inl (cy 0, 130, .inl (nIf f_))), ((bd 8), .inl (cy 0, 16, .inl (nIf (fil (gTo f_ a_) o1_ (f_ 0))))), ((bd 13), .inl (cy 2, 16, .inl (nBf u_.2))), ((bd 14), .inl (cy 0, 17, .inl (nIf u_.1)))] : va_W))) (fun _ => rfl) (by decide) rfl rfl rfl rfl hl.1 rfl (Nat.le_of_ble_eq_true rfl) dX8_commuting_31 ⟨Nat.zero_le _, Nat.zero_le _⟩ (fun r31 u31 H locs h31 hP hD hS => ?_)
    obtain ⟨w_31, b_31⟩ := u31
    obtain ⟨hr31, h31⟩ := h31
    have hr31 : r31 = nI (howN xa_ (f_ 0)) := hr31
    have h31 : CntI xa_ (f_ 0) w_31 := h31
    subst hr31
    have hP : va_P D vwCl [((bd 0), .inr (5, [.int (nI 0), .ref (bd 1), .ref (bd 2), .int (nI um_), .ref (bd 3), .ref (bd 4), .ref (bd 5), .int (nI ln_), .int (nI at_), .int (if iw_ = true then 1 else 0), .ref (bd 6), .ref (bd 7), .ref (bd 8), .ref (bd 9), .ref (bd 10), .ref (bd 11), .ref (bd 12), .ref (bd 13), .ref (bd 14)])), ((bd 1), .inl (cy 0, 130, .inl (nIf f_))), ((bd 8), .inl (cy 0, 16, .inl (nIf (fil (gTo f_ a_) o1_ (f_ 0))))), ((bd 13), .inl (cy 2, 16, .inl (nBf b_31))), ((bd 14), .inl (cy 0, 17, .inl (nIf w_31)))] H := hP
    have hD : va_D zA [((bd 0), .inr (5, [.int (nI 0), .ref (bd 1), .ref (bd 2), .int (nI um_), .ref (bd 3), .ref (bd 4), .ref (bd 5), .int (nI ln_), .int (nI at_), .int (if iw_ = true then 1 else 0), .ref (bd 6), .ref (bd 7), .ref (bd 8), .ref (bd 9), .ref (bd 10), .ref (bd 11), .ref (bd 12), .ref (bd 13), .ref (bd 14)])), ((bd 1), .inl (cy 0, 130, .inl (nIf f_))), ((bd 8), .inl (cy 0, 16, .inl (nIf (fil (gTo f_ a_) o1_ (f_ 0))))), ((bd 13), .inl (cy 2, 16, .inl (nBf b_31))), ((bd 14), .inl (cy 0, 17, .inl (nIf w_31)))] := hD
    refine lv_pop hx hb dX8_commuting_34 rfl ?_
    refine lv_lconst (v := lN 1) hx hb dX8_commuting_35 rfl ?_
    refine zl_top (v := coutL w_31 1) rfl ?_
    refine lv_lstore_n (lv' := [(2, .long (coutL w_31 1)), (0, .ref (bd 0)), (1, .int a_)]) hx hb dX8_commuting_36 rfl hl (by decide) rfl (fun ls hl => ?_)
    refine lv_iconst (v := nI 1) hx hb dX8_commuting_37 (by decide) ?_
    refine lv_istore (lv' := [(4, .int (nI 1)), (2, .long (coutL w_31 1)), (0, .ref (bd 0)), (1, .int a_)]) hx hb dX8_commuting_38 hl (by decide) rfl (fun ls hl => ?_)
    have L40 : ∀ (kf_ : Nat) (L_ : Nat) (h0 : 0 < L_) (hi : L_ ≤ 17), 17 - L_ < kf_ → ∀ (H : Heap) (locs : List Loc), va_P D vwCl [((bd 0), .inr (5, [.int (nI 0), .ref (bd 1), .ref (bd 2), .int (nI um_), .ref (bd 3), .ref (bd 4), .ref (bd 5), .int (nI ln_), .int (nI at_), .int (if iw_ = true then 1 else 0), .ref (bd 6), .ref (bd 7), .ref (bd 8), .ref (bd 9), .ref (bd 10), .ref (bd 11), .ref (bd 12), .ref (bd 13), .ref (bd 14)])), ((bd 1), .inl (cy 0, 130, .inl (nIf f_))), ((bd 8), .inl (cy 0, 16, .inl (nIf (fil (gTo f_ a_) o1_ (f_ 0))))), ((bd 13), .inl (cy 2, 16, .inl (nBf b_31))), ((bd 14), .inl (cy 0, 17, .inl (nIf w_31)))] H → va_D zA [((bd 0), .inr (5, [.int (nI 0), .ref (bd 1), .ref (bd 2), .int (nI um_), .ref (bd 3), .ref (bd 4), .ref (bd 5), .int (nI ln_), .int (nI at_), .int (if iw_ = true then 1 else 0), .ref (bd 6), .ref (bd 7), .ref (bd 8), .ref (bd 9), .ref (bd 10), .ref (bd 11), .ref (bd 12), .ref (bd 13), .ref (bd 14)])), ((bd 1), .inl (cy 0, 130, .inl (nIf f_))), ((bd 8), .inl (cy 0, 16, .inl (nIf (fil (gTo f_ a_) o1_ (f_ 0))))), ((bd 13), .inl (cy 2, 16, .inl (nBf b_31))), ((bd 14), .inl (cy 0, 17, .inl (nIf w_31)))] → va_S zA zs.heap H locs → ∀ ls : Array Slot, lv_has ls 6 [(0, .ref (bd 0)), (1, .int a_), (2, .long (coutL w_31 L_)), (4, .int (nI L_))] → W zp l ze r_X8_commuting zs zm za zb zme zc H locs 0 0 Q (F0 zm 40 ls []) := by
      intro kf_
      induction kf_ with
      | zero => intro L_ h0 hi hk_; exact absurd hk_ (Nat.not_lt_zero _)
      | succ kf_ ih40 =>
        intro L_ h0 hi hk_ H locs hP hD hS ls hl
        refine lv_iload hx hb dX8_commuting_40 (lv_at hl 3 rfl) ?_
        refine lv_bipush (v := nI 17) hx hb dX8_commuting_42 (by decide) ?_
        refine zb_ge (a := L_) (b := 17) (tgt := 84) hx hb dX8_commuting_44 (by decide) (by omega) (by omega) (fun c44 => ?_) (fun c44 => ?_)
        · skip
          refine lv_lload_n hx hb dX8_commuting_84 rfl (lv_at hl 2 rfl) ?_
          exact kr _ ((fil (gTo f_ a_) o1_ (f_ 0)), b_31, w_31) _ _ _ _ dX8_commuting_85 ⟨(by unfold qCommuting; rw [if_pos ha, ← hxa_, ← hf0, show L_ = 17 by omega]; exact coutL_congr h31), trivial⟩ hP hD hS
        · skip
          have hb47 : w_31 L_ ≤ 16 := Nat.le_trans (Nat.le_of_eq (h31 L_ (by omega))) (Nat.le_trans (cnt_le _ _ _) (by omega))
          refine lv_iconst (v := nI 1) hx hb dX8_commuting_47 (by decide) ?_
          have e_ : coutL w_31 L_ = cinL (coutL w_31 L_) L_ (1 - 1) := rfl
          rw [e_] at hl
          refine lv_istore (lv' := [(5, .int (nI 1)), (0, .ref (bd 0)), (1, .int a_), (2, .long (cinL (coutL w_31 L_) L_ (1 - 1))), (4, .int (nI L_))]) hx hb dX8_commuting_48 hl (by decide) rfl (fun ls hl => ?_)
          have L50 : ∀ (kf_ : Nat) (i_ : Nat) (h1 : 0 < i_) (hj : i_ ≤ w_31 L_ + 1), w_31 L_ + 1 - i_ < kf_ → ∀ (H : Heap) (locs : List Loc), va_P D vwCl [((bd 0), .inr (5, [.int (nI 0), .ref (bd 1), .ref (bd 2), .int (nI um_), .ref (bd 3), .ref (bd 4), .ref (bd 5), .int (nI ln_), .int (nI at_), .int (if iw_ = true then 1 else 0), .ref (bd 6), .ref (bd 7), .ref (bd 8), .ref (bd 9), .ref (bd 10), .ref (bd 11), .ref (bd 12), .ref (bd 13), .ref (bd 14)])), ((bd 1), .inl (cy 0, 130, .inl (nIf f_))), ((bd 8), .inl (cy 0, 16, .inl (nIf (fil (gTo f_ a_) o1_ (f_ 0))))), ((bd 13), .inl (cy 2, 16, .inl (nBf b_31))), ((bd 14), .inl (cy 0, 17, .inl (nIf w_31)))] H → va_D zA [((bd 0), .inr (5, [.int (nI 0), .ref (bd 1), .ref (bd 2), .int (nI um_), .ref (bd 3), .ref (bd 4), .ref (bd 5), .int (nI ln_), .int (nI at_), .int (if iw_ = true then 1 else 0), .ref (bd 6), .ref (bd 7), .ref (bd 8), .ref (bd 9), .ref (bd 10), .ref (bd 11), .ref (bd 12), .ref (bd 13), .ref (bd 14)])), ((bd 1), .inl (cy 0, 130, .inl (nIf f_))), ((bd 8), .inl (cy 0, 16, .inl (nIf (fil (gTo f_ a_) o1_ (f_ 0))))), ((bd 13), .inl (cy 2, 16, .inl (nBf b_31))), ((bd 14), .inl (cy 0, 17, .inl (nIf w_31)))] → va_S zA zs.heap H locs → ∀ ls : Array Slot, lv_has ls 6 [(0, .ref (bd 0)), (1, .int a_), (2, .long (cinL (coutL w_31 L_) L_ (i_ - 1))), (4, .int (nI L_)), (5, .int (nI i_))] → W zp l ze r_X8_commuting zs zm za zb zme zc H locs 0 0 Q (F0 zm 50 ls []) := by
            intro kf_
            induction kf_ with
            | zero => intro i_ h1 hj hk_; exact absurd hk_ (Nat.not_lt_zero _)
            | succ kf_ ih50 =>
              intro i_ h1 hj hk_ H locs hP hD hS ls hl
              refine lv_iload hx hb dX8_commuting_50 (lv_at hl 4 rfl) ?_
              refine lv_aload_n hx hb dX8_commuting_52 rfl (lv_at hl 0 rfl) ?_
              refine va_get (D := D) (ci := 5) (v := .ref (bd 14)) (C := RX8) (T := TX8) (N := 19) hx hb hts (fun w h => List.mem_cons_of_mem _ (zinX8 w h)) hown hK.1 hP 0 rfl rfl 18 (by decide) (hts _ (List.mem_cons_of_mem _ zw_87)) (fun _ h9 => h9) rfl dX8_commuting_53 ?_
              refine lv_iload hx hb dX8_commuting_56 (lv_at hl 3 rfl) ?_
              refine zi_iald (v := nI (w_31 L_)) hx hb hK hP 4 rfl (by omega) (by omega) rfl dX8_commuting_58 ?_
              refine zb_gt (a := i_) (b := w_31 L_) (tgt := 78) hx hb dX8_commuting_59 (by decide) (by omega) (by omega) (fun c59 => ?_) (fun c59 => ?_)
              · skip
                have e_ : cinL (coutL w_31 L_) L_ (i_ - 1) = coutL w_31 (L_ + 1) := by rw [show i_ - 1 = w_31 L_ by omega, coutL_s w_31 h0]
                rw [e_] at hl
                refine lv_iinc (v := nI (L_ + 1)) (lv' := [(4, .int (nI (L_ + 1))), (0, .ref (bd 0)), (1, .int a_), (2, .long (coutL w_31 (L_ + 1))), (5, .int (nI i_))]) hx hb dX8_commuting_78 hl (k := 3) rfl (nI_1 _) (by decide) rfl (fun ls hl => ?_)
                refine lv_goto (tgt := 40) hx hb dX8_commuting_81 (by decide) ?_
                exact ih40 (L_ + 1) (by omega) (by omega) (by omega) _ _ hP hD hS _ (lv_sub hl [1, 2, 3, 0] rfl)
              · skip
                refine lv_lload_n hx hb dX8_commuting_62 rfl (lv_at hl 2 rfl) ?_
                refine lv_iload hx hb dX8_commuting_63 (lv_at hl 3 rfl) ?_
                refine lv_i2l (v := lN L_) hx hb dX8_commuting_65 (nI_l (by omega)) ?_
                refine zl_mul (v := (cinL (coutL w_31 L_) L_ (i_ - 1)) * (lN L_)) hx hb dX8_commuting_66 rfl ?_
                refine lv_iload hx hb dX8_commuting_67 (lv_at hl 4 rfl) ?_
                refine lv_i2l (v := lN i_) hx hb dX8_commuting_69 (nI_l (by omega)) ?_
                refine zl_mul (v := cinL (coutL w_31 L_) L_ (i_ + 1 - 1)) hx hb dX8_commuting_70 (by obtain ⟨j_, rfl⟩ : ∃ j_, i_ = j_ + 1 := ⟨i_ - 1, by omega⟩; rfl) ?_
                refine lv_lstore_n (lv' := [(2, .long (cinL (coutL w_31 L_) L_ (i_ + 1 - 1))), (0, .ref (bd 0)), (1, .int a_), (4, .int (nI L_)), (5, .int (nI i_))]) hx hb dX8_commuting_71 rfl hl (by decide) rfl (fun ls hl => ?_)
                refine lv_iinc (v := nI (i_ + 1)) (lv' := [(5, .int (nI (i_ + 1))), (2, .long (cinL (coutL w_31 L_) L_ (i_ + 1 - 1))), (0, .ref (bd 0)), (1, .int a_), (4, .int (nI L_))]) hx hb dX8_commuting_72 hl (k := 4) rfl (nI_1 _) (by decide) rfl (fun ls hl => ?_)
                refine lv_goto (tgt := 50) hx hb dX8_commuting_75 (by decide) ?_
                exact ih50 (i_ + 1) (by omega) (by omega) (by omega) _ _ hP hD hS _ (lv_sub hl [2, 3, 1, 4, 0] rfl)
          exact L50 (w_31 L_ + 1 - 1 + 1) 1 (by omega) (by omega) (Nat.lt_succ_self _) _ _ hP hD hS _ (lv_sub hl [1, 2, 3, 4, 0] rfl)
    exact L40 (17 - 1 + 1) 1 (by omega) (by omega) (Nat.lt_succ_self _) _ _ hP hD hS _ (lv_sub hl [2, 3, 1, 0] rfl)
  · skip
    refine lv_ldc2 hx hb hown (hts _ (List.mem_cons_of_mem _ zw_559)) dX8_commuting_13 ?_
    exact kr _ (o1_, sb_, lc_) _ _ _ _ dX8_commuting_16 ⟨(by unfold qCommuting; rw [if_neg (fun q_ => c10 (by have := bMT_iff.mp q_; omega))]), trivial⟩ hP hD hS
abbrev w_X8_spread : List Cond := Cond.code yX8_spread cX8_spread 5 (some .long) :: zAll
abbrev r_X8_spread : Room := { frames := 2, cells := 0, slots := 0, locals := 44 }
theorem zd_X8_spread : yX8_spread.cls = RX8 ∧ yX8_spread.cls ≠ "java/lang/invoke/MethodHandle" ∧ yX8_spread.cls ≠ "java/lang/invoke/VarHandle" ∧ (parseMethodDescriptor yX8_spread.desc).map (fun d => d.parameters.length) = some 0 := by decide +kernel
set_option maxHeartbeats 4000000 in
set_option maxRecDepth 100000 in
theorem c_X8_spread (l : Launch) (D : va_G) (cy : Nat → ClassId) (sz : Nat) (bd : Nat → Nat) (um_ : Nat) (ln_ : Nat) (at_ : Nat) (iw_ : Bool) (f_ : Nat → Nat) (m_ : MT) (hw : TVok m_.1) (hR : RowR m_.1 f_) : zWl l yX8_spread w_X8_spread r_X8_spread D cy [((bd 0), .inr (5, [.int (nI 0), .ref (bd 1), .ref (bd 2), .int (nI um_), .ref (bd 3), .ref (bd 4), .ref (bd 5), .int (nI ln_), .int (nI at_), .int (if iw_ = true then 1 else 0), .ref (bd 6), .ref (bd 7), .ref (bd 8), .ref (bd 9), .ref (bd 10), .ref (bd 11), .ref (bd 12), .ref (bd 13), .ref (bd 14)])), ((bd 1), .inl (cy 0, 130, .inl (nIf f_)))] sz [.ref (bd 0)] (fun (r_ : Int64) (u : Unit) => r_ = (qSpread m_) ∧ True) (fun u : Unit => ([((bd 0), .inr (5, [.int (nI 0), .ref (bd 1), .ref (bd 2), .int (nI um_), .ref (bd 3), .ref (bd 4), .ref (bd 5), .int (nI ln_), .int (nI at_), .int (if iw_ = true then 1 else 0), .ref (bd 6), .ref (bd 7), .ref (bd 8), .ref (bd 9), .ref (bd 10), .ref (bd 11), .ref (bd 12), .ref (bd 13), .ref (bd 14)])), ((bd 1), .inl (cy 0, 130, .inl (nIf f_)))] : va_W)) := by
  refine zOfWl (cc := cX8_spread) (maxL := 5) (by decide) rfl (Nat.le_of_ble_eq_true rfl) ?_
  intro zp ze zs zm za zb zme zc hx hb hml hts hown hP hK zA hD hA Q kr ls hl
  have hS : va_S zA zs.heap zs.heap [] := va_S.rf
  have hown : zs.vm.findClass RX8 = some zm.cls := hown
  have hl : lv_has ls 5 [(0, .ref (bd 0))] := hl
  have hn2 := ok_2 hw
  have hn16 := ok_n hw
  have hC6 := ok_C hw
  have hwP := ok_P hw
  have hf0 : f_ 0 = mN m_ := hR.1
  have hf1 : f_ 1 = mC m_ := hR.2.1
  have hk0_ : (nI 0).toInt = 0 := rfl
  have hk9_ : (nI 999).toInt = 999 := rfl
  have hk8_ : (-999 : Int32).toInt = -999 := rfl
  have ht := tabD_v hn2 hn16 (spN_le hwP hn16 (mN m_) (Nat.le_refl _))
  refine lv_aload_n hx hb dX8_spread_0 rfl (lv_at hl 0 rfl) ?_
  refine lv_iconst (v := nI 0) hx hb dX8_spread_1 (by decide) ?_
  refine va_put (D := D) (ci := 5) (v := .int (nI 0)) (ty := .int) (C := RX8) (T := TX8) (N := 19) hx hb hts (fun w h => List.mem_cons_of_mem _ (zinX8 w h)) tyX8 tyX8_ok nmX8 hown hK.1 hP hD hS 0 rfl rfl 0 (by decide) (hts _ (List.mem_cons_of_mem _ zw_88)) (fun _ h9 => h9) rfl (tyX8_ok 0 (by decide)) rfl rfl (Nat.le_of_ble_eq_true rfl) dX8_spread_2 (fun H locs hP hD hS => ?_)
  have hP : va_P D vwCl [((bd 0), .inr (5, [.int (nI 0), .ref (bd 1), .ref (bd 2), .int (nI um_), .ref (bd 3), .ref (bd 4), .ref (bd 5), .int (nI ln_), .int (nI at_), .int (if iw_ = true then 1 else 0), .ref (bd 6), .ref (bd 7), .ref (bd 8), .ref (bd 9), .ref (bd 10), .ref (bd 11), .ref (bd 12), .ref (bd 13), .ref (bd 14)])), ((bd 1), .inl (cy 0, 130, .inl (nIf f_)))] H := hP
  have hD : va_D zA [((bd 0), .inr (5, [.int (nI 0), .ref (bd 1), .ref (bd 2), .int (nI um_), .ref (bd 3), .ref (bd 4), .ref (bd 5), .int (nI ln_), .int (nI at_), .int (if iw_ = true then 1 else 0), .ref (bd 6), .ref (bd 7), .ref (bd 8), .ref (bd 9), .ref (bd 10), .ref (bd 11), .ref (bd 12), .ref (bd 13), .ref (bd 14)])), ((bd 1), .inl (cy 0, 130, .inl (nIf f_)))] := hD
  refine lv_dconst0 hx hb dX8_spread_5 ?_
  refine zd_top (v := FP.i2d (nI (spN (mP m_) 0))) i2d_0 ?_
  refine lv_dstore_n (lv' := [(1, .double (FP.i2d (nI (spN (mP m_) 0)))), (0, .ref (bd 0))]) hx hb dX8_spread_6 rfl hl (by decide) rfl (fun ls hl => ?_)
  refine lv_iconst (v := nI 0) hx hb dX8_spread_7 (by decide) ?_
  refine lv_istore_n (lv' := [(3, .int (nI 0)), (1, .double (FP.i2d (nI (spN (mP m_) 0)))), (0, .ref (bd 0))]) hx hb dX8_spread_8 rfl hl (by decide) rfl (fun ls hl => ?_)
  have L9 : ∀ (kf_ : Nat) (i_ : Nat) (hi : i_ ≤ f_ 0), f_ 0 - i_ < kf_ → ∀ (H : Heap) (locs : List Loc), va_P D vwCl [((bd 0), .inr (5, [.int (nI 0), .ref (bd 1), .ref (bd 2), .int (nI um_), .ref (bd 3), .ref (bd 4), .ref (bd 5), .int (nI ln_), .int (nI at_), .int (if iw_ = true then 1 else 0), .ref (bd 6), .ref (bd 7), .ref (bd 8), .ref (bd 9), .ref (bd 10), .ref (bd 11), .ref (bd 12), .ref (bd 13), .ref (bd 14)])), ((bd 1), .inl (cy 0, 130, .inl (nIf f_)))] H → va_D zA [((bd 0), .inr (5, [.int (nI 0), .ref (bd 1), .ref (bd 2), .int (nI um_), .ref (bd 3), .ref (bd 4), .ref (bd 5), .int (nI ln_), .int (nI at_), .int (if iw_ = true then 1 else 0), .ref (bd 6), .ref (bd 7), .ref (bd 8), .ref (bd 9), .ref (bd 10), .ref (bd 11), .ref (bd 12), .ref (bd 13), .ref (bd 14)])), ((bd 1), .inl (cy 0, 130, .inl (nIf f_)))] → va_S zA zs.heap H locs → ∀ ls : Array Slot, lv_has ls 5 [(0, .ref (bd 0)), (1, .double (FP.i2d (nI (spN (mP m_) i_)))), (3, .int (nI i_))] → W zp l ze r_X8_spread zs zm za zb zme zc H locs 0 0 Q (F0 zm 9 ls []) := by
    intro kf_
    induction kf_ with
    | zero => intro i_ hi hk_; exact absurd hk_ (Nat.not_lt_zero _)
    | succ kf_ ih9 =>
      intro i_ hi hk_ H locs hP hD hS ls hl
      refine lv_iload_n hx hb dX8_spread_9 rfl (lv_at hl 2 rfl) ?_
      refine lv_aload_n hx hb dX8_spread_10 rfl (lv_at hl 0 rfl) ?_
      refine va_get (D := D) (ci := 5) (v := .ref (bd 1)) (C := RX8) (T := TX8) (N := 19) hx hb hts (fun w h => List.mem_cons_of_mem _ (zinX8 w h)) hown hK.1 hP 0 rfl rfl 1 (by decide) (hts _ (List.mem_cons_of_mem _ zw_74)) (fun _ h9 => h9) rfl dX8_spread_11 ?_
      refine lv_iconst (v := nI 0) hx hb dX8_spread_14 (by decide) ?_
      refine zi_iald (v := nI (f_ 0)) hx hb hK hP 1 rfl (by omega) (by omega) rfl dX8_spread_15 ?_
      refine zb_ge (a := i_) (b := f_ 0) (tgt := 54) hx hb dX8_spread_16 (by decide) (by omega) (by omega) (fun c16 => ?_) (fun c16 => ?_)
      · skip
        have ei_ : i_ = mN m_ := by omega
        rw [ei_] at hl
        refine lv_dload_n hx hb dX8_spread_54 rfl (lv_at hl 1 rfl) ?_
        refine lv_aload_n hx hb dX8_spread_55 rfl (lv_at hl 0 rfl) ?_
        refine va_get (D := D) (ci := 5) (v := .ref (bd 1)) (C := RX8) (T := TX8) (N := 19) hx hb hts (fun w h => List.mem_cons_of_mem _ (zinX8 w h)) hown hK.1 hP 0 rfl rfl 1 (by decide) (hts _ (List.mem_cons_of_mem _ zw_74)) (fun _ h9 => h9) rfl dX8_spread_56 ?_
        refine lv_iconst (v := nI 0) hx hb dX8_spread_59 (by decide) ?_
        refine zi_iald (v := nI (mN m_)) hx hb hK hP 1 rfl (by omega) (by omega) (congrArg nI hf0) dX8_spread_60 ?_
        refine lv_i2d hx hb dX8_spread_61 ?_
        refine lv_ddiv hx hb dX8_spread_62 ht.1 ?_
        refine zcSl (As := [.double (FP.ddiv (FP.i2d (nI (spN (mP m_) (mN m_)))) (FP.i2d (nI (mN m_))))]) (rest := []) ⟨hx, hb, hml, hown, hts⟩ (c_Jxe99ae_doubleToLongBits_ccdee l D cy (FP.ddiv (FP.i2d (nI (spN (mP m_) (mN m_)))) (FP.i2d (nI (mN m_)))) ht.2.1) (va_cwS 1 hts (zG_S zw_598 zw_599 zw_600 zw_601) rfl rfl rfl zd_Jxe99ae_doubleToLongBits_ccdee ⟨Nat.le_of_ble_eq_true rfl, Nat.le_of_ble_eq_true rfl⟩) hK hP [] rfl rfl hl.1 rfl (Nat.le_of_ble_eq_true rfl) dX8_spread_63 ⟨Nat.zero_le _, Nat.zero_le _⟩ (fun r63 h63 => ?_)
        subst h63
        exact kr _ () _ _ _ _ dX8_spread_66 ⟨by unfold qSpread; rfl, trivial⟩ hP hD hS
      · skip
        have hf26 := fr_lt (mP m_) i_
        have hd26 : dif (fr (mP m_) i_) i_ < 16 := dif_lt hf26 (by omega)
        refine lv_aload_n hx hb dX8_spread_19 rfl (lv_at hl 0 rfl) ?_
        refine va_get (D := D) (ci := 5) (v := .ref (bd 1)) (C := RX8) (T := TX8) (N := 19) hx hb hts (fun w h => List.mem_cons_of_mem _ (zinX8 w h)) hown hK.1 hP 0 rfl rfl 1 (by decide) (hts _ (List.mem_cons_of_mem _ zw_74)) (fun _ h9 => h9) rfl dX8_spread_20 ?_
        refine lv_iconst (v := nI 2) hx hb dX8_spread_23 (by decide) ?_
        refine lv_iload_n hx hb dX8_spread_24 rfl (lv_at hl 2 rfl) ?_
        refine zi_add (v := nI (2 + i_)) hx hb dX8_spread_25 (nI_add _ _) ?_
        refine zi_iald (v := nI (fr (mP m_) i_)) hx hb hK hP 1 rfl (by omega) (by omega) (congrArg nI (hR.2.2.1 i_ (show i_ < mN m_ by omega))) dX8_spread_26 ?_
        refine lv_iload_n hx hb dX8_spread_27 rfl (lv_at hl 2 rfl) ?_
        refine zi_sub (v := nI (fr (mP m_) i_) - nI i_) hx hb dX8_spread_28 rfl ?_
        refine lv_istore (lv' := [(4, .int (nI (fr (mP m_) i_) - nI i_)), (0, .ref (bd 0)), (1, .double (FP.i2d (nI (spN (mP m_) i_)))), (3, .int (nI i_))]) hx hb dX8_spread_29 hl (by decide) rfl (fun ls hl => ?_)
        refine lv_dload_n hx hb dX8_spread_31 rfl (lv_at hl 2 rfl) ?_
        refine lv_iload hx hb dX8_spread_32 (lv_at hl 0 rfl) ?_
        refine zt0_ge (a := ((fr (mP m_) i_ : Nat) : Int) - ((i_ : Nat) : Int)) (tgt := 43) hx hb dX8_spread_34 (by decide) (pk_sub_toInt (by omega) (by omega)) (fun c34 => ?_) (fun c34 => ?_)
        · skip
          refine lv_iload hx hb dX8_spread_43 (lv_at hl 0 rfl) ?_
          refine zi_top (v := nI (dif (fr (mP m_) i_) i_)) (difB (by omega)) ?_
          refine lv_i2d hx hb dX8_spread_45 ?_
          refine lv_dadd hx hb dX8_spread_46 (sumT_v (spN_lt hwP hn16 (show i_ < mN m_ by omega)) hd26).1 ?_
          refine zd_top (v := FP.i2d (nI (spN (mP m_) (i_ + 1)))) ((sumT_v (spN_lt hwP hn16 (show i_ < mN m_ by omega)) hd26).2.trans (congrArg (fun z_ => FP.i2d (nI z_)) (spN_s _ _))) ?_
          refine lv_dstore_n (lv' := [(1, .double (FP.i2d (nI (spN (mP m_) (i_ + 1))))), (4, .int (nI (fr (mP m_) i_) - nI i_)), (0, .ref (bd 0)), (3, .int (nI i_))]) hx hb dX8_spread_47 rfl hl (by decide) rfl (fun ls hl => ?_)
          refine lv_iinc (v := nI (i_ + 1)) (lv' := [(3, .int (nI (i_ + 1))), (1, .double (FP.i2d (nI (spN (mP m_) (i_ + 1))))), (4, .int (nI (fr (mP m_) i_) - nI i_)), (0, .ref (bd 0))]) hx hb dX8_spread_48 hl (k := 3) rfl (nI_1 _) (by decide) rfl (fun ls hl => ?_)
          refine lv_goto (tgt := 9) hx hb dX8_spread_51 (by decide) ?_
          exact ih9 (i_ + 1) (by omega) (by omega) _ _ hP hD hS _ (lv_sub hl [3, 1, 0] rfl)
        · skip
          refine lv_iload hx hb dX8_spread_37 (lv_at hl 0 rfl) ?_
          refine zi_neg (v := nI (dif (fr (mP m_) i_) i_)) hx hb dX8_spread_39 (difA (by omega) (by omega)) ?_
          refine lv_goto (tgt := 45) hx hb dX8_spread_40 (by decide) ?_
          refine lv_i2d hx hb dX8_spread_45 ?_
          refine lv_dadd hx hb dX8_spread_46 (sumT_v (spN_lt hwP hn16 (show i_ < mN m_ by omega)) hd26).1 ?_
          refine zd_top (v := FP.i2d (nI (spN (mP m_) (i_ + 1)))) ((sumT_v (spN_lt hwP hn16 (show i_ < mN m_ by omega)) hd26).2.trans (congrArg (fun z_ => FP.i2d (nI z_)) (spN_s _ _))) ?_
          refine lv_dstore_n (lv' := [(1, .double (FP.i2d (nI (spN (mP m_) (i_ + 1))))), (4, .int (nI (fr (mP m_) i_) - nI i_)), (0, .ref (bd 0)), (3, .int (nI i_))]) hx hb dX8_spread_47 rfl hl (by decide) rfl (fun ls hl => ?_)
          refine lv_iinc (v := nI (i_ + 1)) (lv' := [(3, .int (nI (i_ + 1))), (1, .double (FP.i2d (nI (spN (mP m_) (i_ + 1))))), (4, .int (nI (fr (mP m_) i_) - nI i_)), (0, .ref (bd 0))]) hx hb dX8_spread_48 hl (k := 3) rfl (nI_1 _) (by decide) rfl (fun ls hl => ?_)
          refine lv_goto (tgt := 9) hx hb dX8_spread_51 (by decide) ?_
          exact ih9 (i_ + 1) (by omega) (by omega) _ _ hP hD hS _ (lv_sub hl [3, 1, 0] rfl)
  exact L9 (f_ 0 - 0 + 1) 0 (Nat.zero_le _) (Nat.lt_succ_self _) _ _ hP hD hS _ (lv_sub hl [2, 1, 0] rfl)
abbrev w_X8_share : List Cond := Cond.code yX8_share cX8_share 3 (some .int) :: zAll
abbrev r_X8_share : Room := { frames := 2, cells := 0, slots := 0, locals := 43 }
theorem zd_X8_share : yX8_share.cls = RX8 ∧ yX8_share.cls ≠ "java/lang/invoke/MethodHandle" ∧ yX8_share.cls ≠ "java/lang/invoke/VarHandle" ∧ (parseMethodDescriptor yX8_share.desc).map (fun d => d.parameters.length) = some 0 := by decide +kernel
set_option maxHeartbeats 4000000 in
set_option maxRecDepth 100000 in
theorem c_X8_share (l : Launch) (D : va_G) (cy : Nat → ClassId) (sz : Nat) (bd : Nat → Nat) (um_ : Nat) (ln_ : Nat) (at_ : Nat) (iw_ : Bool) (f_ : Nat → Nat) (m_ : MT) (hw : TVok m_.1) (hR : RowR m_.1 f_) : zWi l yX8_share w_X8_share r_X8_share D cy [((bd 0), .inr (5, [.int (nI 0), .ref (bd 1), .ref (bd 2), .int (nI um_), .ref (bd 3), .ref (bd 4), .ref (bd 5), .int (nI ln_), .int (nI at_), .int (if iw_ = true then 1 else 0), .ref (bd 6), .ref (bd 7), .ref (bd 8), .ref (bd 9), .ref (bd 10), .ref (bd 11), .ref (bd 12), .ref (bd 13), .ref (bd 14)])), ((bd 1), .inl (cy 0, 130, .inl (nIf f_)))] sz [.ref (bd 0)] (fun (r_ : Int32) (u : Unit) => r_ = (qShare m_) ∧ True) (fun u : Unit => ([((bd 0), .inr (5, [.int (nI 0), .ref (bd 1), .ref (bd 2), .int (nI um_), .ref (bd 3), .ref (bd 4), .ref (bd 5), .int (nI ln_), .int (nI at_), .int (if iw_ = true then 1 else 0), .ref (bd 6), .ref (bd 7), .ref (bd 8), .ref (bd 9), .ref (bd 10), .ref (bd 11), .ref (bd 12), .ref (bd 13), .ref (bd 14)])), ((bd 1), .inl (cy 0, 130, .inl (nIf f_)))] : va_W)) := by
  refine zOfW (cc := cX8_share) (maxL := 3) (ty := .int) (by decide) rfl (Nat.le_of_ble_eq_true rfl) ?_
  intro zp ze zs zm za zb zme zc hx hb hml hts hown hP hK zA hD hA Q kr ls hl
  have hS : va_S zA zs.heap zs.heap [] := va_S.rf
  have hown : zs.vm.findClass RX8 = some zm.cls := hown
  have hl : lv_has ls 3 [(0, .ref (bd 0))] := hl
  have hn2 := ok_2 hw
  have hn16 := ok_n hw
  have hC6 := ok_C hw
  have hwP := ok_P hw
  have hf0 : f_ 0 = mN m_ := hR.1
  have hf1 : f_ 1 = mC m_ := hR.2.1
  have hk0_ : (nI 0).toInt = 0 := rfl
  have hk9_ : (nI 999).toInt = 999 := rfl
  have hk8_ : (-999 : Int32).toInt = -999 := rfl
  have ht := tabF_v hn2 hn16 (pop_fix_le (mP m_) hn16)
  refine lv_aload_n hx hb dX8_share_0 rfl (lv_at hl 0 rfl) ?_
  refine lv_iconst (v := nI 0) hx hb dX8_share_1 (by decide) ?_
  refine va_put (D := D) (ci := 5) (v := .int (nI 0)) (ty := .int) (C := RX8) (T := TX8) (N := 19) hx hb hts (fun w h => List.mem_cons_of_mem _ (zinX8 w h)) tyX8 tyX8_ok nmX8 hown hK.1 hP hD hS 0 rfl rfl 0 (by decide) (hts _ (List.mem_cons_of_mem _ zw_88)) (fun _ h9 => h9) rfl (tyX8_ok 0 (by decide)) rfl rfl (Nat.le_of_ble_eq_true rfl) dX8_share_2 (fun H locs hP hD hS => ?_)
  have hP : va_P D vwCl [((bd 0), .inr (5, [.int (nI 0), .ref (bd 1), .ref (bd 2), .int (nI um_), .ref (bd 3), .ref (bd 4), .ref (bd 5), .int (nI ln_), .int (nI at_), .int (if iw_ = true then 1 else 0), .ref (bd 6), .ref (bd 7), .ref (bd 8), .ref (bd 9), .ref (bd 10), .ref (bd 11), .ref (bd 12), .ref (bd 13), .ref (bd 14)])), ((bd 1), .inl (cy 0, 130, .inl (nIf f_)))] H := hP
  have hD : va_D zA [((bd 0), .inr (5, [.int (nI 0), .ref (bd 1), .ref (bd 2), .int (nI um_), .ref (bd 3), .ref (bd 4), .ref (bd 5), .int (nI ln_), .int (nI at_), .int (if iw_ = true then 1 else 0), .ref (bd 6), .ref (bd 7), .ref (bd 8), .ref (bd 9), .ref (bd 10), .ref (bd 11), .ref (bd 12), .ref (bd 13), .ref (bd 14)])), ((bd 1), .inl (cy 0, 130, .inl (nIf f_)))] := hD
  refine lv_iconst (v := nI 0) hx hb dX8_share_5 (by decide) ?_
  refine zi_top (v := nI (ctT (mP m_) 0)) rfl ?_
  refine lv_istore_n (lv' := [(1, .int (nI (ctT (mP m_) 0))), (0, .ref (bd 0))]) hx hb dX8_share_6 rfl hl (by decide) rfl (fun ls hl => ?_)
  refine lv_iconst (v := nI 0) hx hb dX8_share_7 (by decide) ?_
  refine lv_istore_n (lv' := [(2, .int (nI 0)), (1, .int (nI (ctT (mP m_) 0))), (0, .ref (bd 0))]) hx hb dX8_share_8 rfl hl (by decide) rfl (fun ls hl => ?_)
  have L9 : ∀ (kf_ : Nat) (i_ : Nat) (hi : i_ ≤ f_ 0), f_ 0 - i_ < kf_ → ∀ (H : Heap) (locs : List Loc), va_P D vwCl [((bd 0), .inr (5, [.int (nI 0), .ref (bd 1), .ref (bd 2), .int (nI um_), .ref (bd 3), .ref (bd 4), .ref (bd 5), .int (nI ln_), .int (nI at_), .int (if iw_ = true then 1 else 0), .ref (bd 6), .ref (bd 7), .ref (bd 8), .ref (bd 9), .ref (bd 10), .ref (bd 11), .ref (bd 12), .ref (bd 13), .ref (bd 14)])), ((bd 1), .inl (cy 0, 130, .inl (nIf f_)))] H → va_D zA [((bd 0), .inr (5, [.int (nI 0), .ref (bd 1), .ref (bd 2), .int (nI um_), .ref (bd 3), .ref (bd 4), .ref (bd 5), .int (nI ln_), .int (nI at_), .int (if iw_ = true then 1 else 0), .ref (bd 6), .ref (bd 7), .ref (bd 8), .ref (bd 9), .ref (bd 10), .ref (bd 11), .ref (bd 12), .ref (bd 13), .ref (bd 14)])), ((bd 1), .inl (cy 0, 130, .inl (nIf f_)))] → va_S zA zs.heap H locs → ∀ ls : Array Slot, lv_has ls 3 [(0, .ref (bd 0)), (1, .int (nI (ctT (mP m_) i_))), (2, .int (nI i_))] → W zp l ze r_X8_share zs zm za zb zme zc H locs 0 0 Q (F0 zm 9 ls []) := by
    intro kf_
    induction kf_ with
    | zero => intro i_ hi hk_; exact absurd hk_ (Nat.not_lt_zero _)
    | succ kf_ ih9 =>
      intro i_ hi hk_ H locs hP hD hS ls hl
      refine lv_iload_n hx hb dX8_share_9 rfl (lv_at hl 2 rfl) ?_
      refine lv_aload_n hx hb dX8_share_10 rfl (lv_at hl 0 rfl) ?_
      refine va_get (D := D) (ci := 5) (v := .ref (bd 1)) (C := RX8) (T := TX8) (N := 19) hx hb hts (fun w h => List.mem_cons_of_mem _ (zinX8 w h)) hown hK.1 hP 0 rfl rfl 1 (by decide) (hts _ (List.mem_cons_of_mem _ zw_74)) (fun _ h9 => h9) rfl dX8_share_11 ?_
      refine lv_iconst (v := nI 0) hx hb dX8_share_14 (by decide) ?_
      refine zi_iald (v := nI (f_ 0)) hx hb hK hP 1 rfl (by omega) (by omega) rfl dX8_share_15 ?_
      refine zb_ge (a := i_) (b := f_ 0) (tgt := 45) hx hb dX8_share_16 (by decide) (by omega) (by omega) (fun c16 => ?_) (fun c16 => ?_)
      · skip
        have ei_ : i_ = mN m_ := by omega
        have ep_ : ctT (mP m_) i_ = popN (fixM (mP m_) (mN m_)) := ct_pop hn16 ei_
        rw [ep_] at hl
        refine lv_iload_n hx hb dX8_share_45 rfl (lv_at hl 1 rfl) ?_
        refine lv_i2f hx hb dX8_share_46 ?_
        refine lv_aload_n hx hb dX8_share_47 rfl (lv_at hl 0 rfl) ?_
        refine va_get (D := D) (ci := 5) (v := .ref (bd 1)) (C := RX8) (T := TX8) (N := 19) hx hb hts (fun w h => List.mem_cons_of_mem _ (zinX8 w h)) hown hK.1 hP 0 rfl rfl 1 (by decide) (hts _ (List.mem_cons_of_mem _ zw_74)) (fun _ h9 => h9) rfl dX8_share_48 ?_
        refine lv_iconst (v := nI 0) hx hb dX8_share_51 (by decide) ?_
        refine zi_iald (v := nI (mN m_)) hx hb hK hP 1 rfl (by omega) (by omega) (congrArg nI hf0) dX8_share_52 ?_
        refine lv_i2f hx hb dX8_share_53 ?_
        refine lv_fdiv hx hb dX8_share_54 ht.1 ?_
        refine zcSi (As := [.float (FP.fdiv (FP.i2f (nI (popN (fixM (mP m_) (mN m_))))) (FP.i2f (nI (mN m_))))]) (rest := []) ⟨hx, hb, hml, hown, hts⟩ (c_Jxf58ca_floatToIntBits_5c35a l D cy (FP.fdiv (FP.i2f (nI (popN (fixM (mP m_) (mN m_))))) (FP.i2f (nI (mN m_)))) ht.2.1) (va_cwS 1 hts (zG_S zw_621 zw_622 zw_623 zw_624) rfl rfl rfl zd_Jxf58ca_floatToIntBits_5c35a ⟨Nat.le_of_ble_eq_true rfl, Nat.le_of_ble_eq_true rfl⟩) hK hP [] rfl rfl hl.1 rfl (Nat.le_of_ble_eq_true rfl) dX8_share_55 ⟨Nat.zero_le _, Nat.zero_le _⟩ (fun r55 h55 => ?_)
        subst h55
        exact kr _ () _ _ _ _ dX8_share_58 (vp_nar_int _) ⟨by unfold qShare; rfl, trivial⟩ hP hD hS
      · skip
        have hb_ := fr_lt (mP m_) i_
        have hx_ := fr_fix (ok_P hw) hn16 (show i_ < mN m_ by omega)
        refine lv_iload_n hx hb dX8_share_19 rfl (lv_at hl 1 rfl) ?_
        refine lv_aload_n hx hb dX8_share_20 rfl (lv_at hl 0 rfl) ?_
        refine va_get (D := D) (ci := 5) (v := .ref (bd 1)) (C := RX8) (T := TX8) (N := 19) hx hb hts (fun w h => List.mem_cons_of_mem _ (zinX8 w h)) hown hK.1 hP 0 rfl rfl 1 (by decide) (hts _ (List.mem_cons_of_mem _ zw_74)) (fun _ h9 => h9) rfl dX8_share_21 ?_
        refine lv_iconst (v := nI 2) hx hb dX8_share_24 (by decide) ?_
        refine lv_iload_n hx hb dX8_share_25 rfl (lv_at hl 2 rfl) ?_
        refine zi_add (v := nI (2 + i_)) hx hb dX8_share_26 (nI_add _ _) ?_
        refine zi_iald (v := nI (fr (mP m_) i_)) hx hb hK hP 1 rfl (by omega) (by omega) (congrArg nI (hR.2.2.1 i_ (show i_ < mN m_ by omega))) dX8_share_27 ?_
        refine lv_iload_n hx hb dX8_share_28 rfl (lv_at hl 2 rfl) ?_
        refine zb_ne (a := fr (mP m_) i_) (b := i_) (tgt := 36) hx hb dX8_share_29 (by decide) (by omega) (by omega) (fun c29 => ?_) (fun c29 => ?_)
        · skip
          refine lv_iconst (v := nI 0) hx hb dX8_share_36 (by decide) ?_
          refine zi_add (v := nI (ctT (mP m_) (i_ + 1))) hx hb dX8_share_37 ((nI_add _ _).trans (congrArg nI (ctT_n (fun q_ => c29 (hx_.mpr q_))).symm)) ?_
          refine lv_istore_n (lv' := [(1, .int (nI (ctT (mP m_) (i_ + 1)))), (0, .ref (bd 0)), (2, .int (nI i_))]) hx hb dX8_share_38 rfl hl (by decide) rfl (fun ls hl => ?_)
          refine lv_iinc (v := nI (i_ + 1)) (lv' := [(2, .int (nI (i_ + 1))), (1, .int (nI (ctT (mP m_) (i_ + 1)))), (0, .ref (bd 0))]) hx hb dX8_share_39 hl (k := 2) rfl (nI_1 _) (by decide) rfl (fun ls hl => ?_)
          refine lv_goto (tgt := 9) hx hb dX8_share_42 (by decide) ?_
          exact ih9 (i_ + 1) (by omega) (by omega) _ _ hP hD hS _ (lv_sub hl [2, 1, 0] rfl)
        · skip
          refine lv_iconst (v := nI 1) hx hb dX8_share_32 (by decide) ?_
          refine lv_goto (tgt := 37) hx hb dX8_share_33 (by decide) ?_
          refine zi_add (v := nI (ctT (mP m_) (i_ + 1))) hx hb dX8_share_37 ((nI_add _ _).trans (congrArg nI (ctT_y (hx_.mp c29)).symm)) ?_
          refine lv_istore_n (lv' := [(1, .int (nI (ctT (mP m_) (i_ + 1)))), (0, .ref (bd 0)), (2, .int (nI i_))]) hx hb dX8_share_38 rfl hl (by decide) rfl (fun ls hl => ?_)
          refine lv_iinc (v := nI (i_ + 1)) (lv' := [(2, .int (nI (i_ + 1))), (1, .int (nI (ctT (mP m_) (i_ + 1)))), (0, .ref (bd 0))]) hx hb dX8_share_39 hl (k := 2) rfl (nI_1 _) (by decide) rfl (fun ls hl => ?_)
          refine lv_goto (tgt := 9) hx hb dX8_share_42 (by decide) ?_
          exact ih9 (i_ + 1) (by omega) (by omega) _ _ hP hD hS _ (lv_sub hl [2, 1, 0] rfl)
  exact L9 (f_ 0 - 0 + 1) 0 (Nat.zero_le _) (Nat.lt_succ_self _) _ _ hP hD hS _ (lv_sub hl [2, 1, 0] rfl)
abbrev w_X8_laysByCut : List Cond := Cond.code yX8_laysByCut cX8_laysByCut 4 none :: zAll
abbrev r_X8_laysByCut : Room := { frames := 2, cells := 0, slots := 0, locals := 45 }
theorem zd_X8_laysByCut : yX8_laysByCut.cls = RX8 ∧ yX8_laysByCut.cls ≠ "java/lang/invoke/MethodHandle" ∧ yX8_laysByCut.cls ≠ "java/lang/invoke/VarHandle" ∧ (parseMethodDescriptor yX8_laysByCut.desc).map (fun d => d.parameters.length) = some 2 := by decide +kernel
set_option maxHeartbeats 4000000 in
set_option maxRecDepth 100000 in
theorem c_X8_laysByCut (l : Launch) (D : va_G) (cy : Nat → ClassId) (sz : Nat) (bd : Nat → Nat) (um_ : Nat) (ln_ : Nat) (at_ : Nat) (iw_ : Bool) (f_ : Nat → Nat) (m_ : MT) (o1_ : Nat → Nat) (o2_ : Nat → Nat) (o3_ : Nat → Nat) (nx_ : Nat → Nat) (a_ : Int32) (k_ : Nat) (x_ : Int64) (hw : TVok m_.1) (hR : RowR m_.1 f_) (ha : bM m_ a_ = true) (hk : k_ < f_ 0) (hxe : x_ = mM m_ (ix a_)) : zWv l yX8_laysByCut w_X8_laysByCut r_X8_laysByCut D cy [((bd 0), .inr (5, [.int (nI 0), .ref (bd 1), .ref (bd 2), .int (nI um_), .ref (bd 3), .ref (bd 4), .ref (bd 5), .int (nI ln_), .int (nI at_), .int (if iw_ = true then 1 else 0), .ref (bd 6), .ref (bd 7), .ref (bd 8), .ref (bd 9), .ref (bd 10), .ref (bd 11), .ref (bd 12), .ref (bd 13), .ref (bd 14)])), ((bd 1), .inl (cy 0, 130, .inl (nIf f_))), ((bd 8), .inl (cy 0, 16, .inl (nIf o1_))), ((bd 9), .inl (cy 0, 16, .inl (nIf o2_))), ((bd 10), .inl (cy 0, 16, .inl (nIf o3_))), ((bd 12), .inl (cy 0, 16, .inl (nIf nx_)))] sz [.ref (bd 0), .int a_, .int (nI k_)] (fun u : (Nat → Nat) × (Nat → Nat) × (Nat → Nat) × (Nat → Nat) => RowX (f_ 0) u.2.2.2 (becL x_ k_ (f_ 0))) (fun u : (Nat → Nat) × (Nat → Nat) × (Nat → Nat) × (Nat → Nat) => ([((bd 0), .inr (5, [.int (nI 0), .ref (bd 1), .ref (bd 2), .int (nI um_), .ref (bd 3), .ref (bd 4), .ref (bd 5), .int (nI ln_), .int (nI at_), .int (if iw_ = true then 1 else 0), .ref (bd 6), .ref (bd 7), .ref (bd 8), .ref (bd 9), .ref (bd 10), .ref (bd 11), .ref (bd 12), .ref (bd 13), .ref (bd 14)])), ((bd 1), .inl (cy 0, 130, .inl (nIf f_))), ((bd 8), .inl (cy 0, 16, .inl (nIf u.1))), ((bd 9), .inl (cy 0, 16, .inl (nIf u.2.1))), ((bd 10), .inl (cy 0, 16, .inl (nIf u.2.2.1))), ((bd 12), .inl (cy 0, 16, .inl (nIf u.2.2.2)))] : va_W)) 0 0 := by
  refine zOfV (cc := cX8_laysByCut) (maxL := 4) (by decide) rfl (Nat.le_of_ble_eq_true rfl) ?_
  intro zp ze zs zm za zb zme zc hx hb hml hts hown hP hK zA hD hA Q kr ls hl hin
  have hS : va_S zA zs.heap zs.heap [] := va_S.rf
  have hown : zs.vm.findClass RX8 = some zm.cls := hown
  have hl : lv_has ls 4 [(0, .ref (bd 0)), (1, .int a_), (2, .int (nI k_))] := hl
  have hn2 := ok_2 hw
  have hn16 := ok_n hw
  have hC6 := ok_C hw
  have hwP := ok_P hw
  have hf0 : f_ 0 = mN m_ := hR.1
  have hf1 : f_ 1 = mC m_ := hR.2.1
  have hk0_ : (nI 0).toInt = 0 := rfl
  have hk9_ : (nI 999).toInt = 999 := rfl
  have hk8_ : (-999 : Int32).toInt = -999 := rfl
  have hba := bM_iff.mp ha
  have hX := fetch_X hR ha o3_
  have hwx := ok_M hw (show ix a_ < mC m_ by unfold ix; omega)
  rw [← hf0, ← hxe] at hwx
  rw [← hxe] at hX
  refine lv_aload_n hx hb dX8_laysByCut_0 rfl (lv_at hl 0 rfl) ?_
  refine lv_aload_n hx hb dX8_laysByCut_1 rfl (lv_at hl 0 rfl) ?_
  refine va_get (D := D) (ci := 5) (v := .ref (bd 8)) (C := RX8) (T := TX8) (N := 19) hx hb hts (fun w h => List.mem_cons_of_mem _ (zinX8 w h)) hown hK.1 hP 0 rfl rfl 12 (by decide) (hts _ (List.mem_cons_of_mem _ zw_81)) (fun _ h9 => h9) rfl dX8_laysByCut_2 ?_
  refine lv_iload_n hx hb dX8_laysByCut_5 rfl (lv_at hl 2 rfl) ?_
  refine zcWv (As := [.ref (bd 8), .int (nI k_)]) (rest := []) (wr := [((bd 9), .inl (cy 0, 16, .inl (nIf o2_))), ((bd 10), .inl (cy 0, 16, .inl (nIf o3_))), ((bd 12), .inl (cy 0, 16, .inl (nIf nx_)))]) ⟨hx, hb, hml, hown, hts⟩ (c_X8_laysCut l D cy zs.heap.size bd um_ ln_ at_ iw_ f_ (bd 8) o1_ k_ (by omega) (by omega)) (cwV 2 hts (zG_V zw_357 zw_358 zw_359 zw_5 zw_360) rfl rfl rfl zd_X8_laysCut ⟨Nat.le_of_ble_eq_true rfl, Nat.le_of_ble_eq_true rfl⟩) hK hP hD hS hA [0, 1, 2] [3, 4, 5] [3, 4, 5, 0, 1, 2] rfl (by decide) rfl (by decide) (by decide) (w2 := (fun u_ : Unit => ([((bd 0), .inr (5, [.int (nI 0), .ref (bd 1), .ref (bd 2), .int (nI um_), .ref (bd 3), .ref (bd 4), .ref (bd 5), .int (nI ln_), .int (nI at_), .int (if iw_ = true then 1 else 0), .ref (bd 6), .ref (bd 7), .ref (bd 8), .ref (bd 9), .ref (bd 10), .ref (bd 11), .ref (bd 12), .ref (bd 13), .ref (bd 14)])), ((bd 1), .inl (cy 0, 130, .inl (nIf f_))), ((bd 8), .inl (cy 0, 16, .inl (nIf (fil (cutF k_ (f_ 0)) o1_ (f_ 0))))), ((bd 9), .inl (cy 0, 16, .inl (nIf o2_))), ((bd 10), .inl (cy 0, 16, .inl (nIf o3_))), ((bd 12), .inl (cy 0, 16, .inl (nIf nx_)))] : va_W))) (fun _ => rfl) (by decide) rfl rfl rfl rfl hl.1 rfl (Nat.le_of_ble_eq_true rfl) dX8_laysByCut_6 ⟨Nat.zero_le _, Nat.zero_le _⟩ (fun  u6 H locs h6 hP hD hS => ?_)
  have h6 : True := h6
  have hP : va_P D vwCl [((bd 0), .inr (5, [.int (nI 0), .ref (bd 1), .ref (bd 2), .int (nI um_), .ref (bd 3), .ref (bd 4), .ref (bd 5), .int (nI ln_), .int (nI at_), .int (if iw_ = true then 1 else 0), .ref (bd 6), .ref (bd 7), .ref (bd 8), .ref (bd 9), .ref (bd 10), .ref (bd 11), .ref (bd 12), .ref (bd 13), .ref (bd 14)])), ((bd 1), .inl (cy 0, 130, .inl (nIf f_))), ((bd 8), .inl (cy 0, 16, .inl (nIf (fil (cutF k_ (f_ 0)) o1_ (f_ 0))))), ((bd 9), .inl (cy 0, 16, .inl (nIf o2_))), ((bd 10), .inl (cy 0, 16, .inl (nIf o3_))), ((bd 12), .inl (cy 0, 16, .inl (nIf nx_)))] H := hP
  have hD : va_D zA [((bd 0), .inr (5, [.int (nI 0), .ref (bd 1), .ref (bd 2), .int (nI um_), .ref (bd 3), .ref (bd 4), .ref (bd 5), .int (nI ln_), .int (nI at_), .int (if iw_ = true then 1 else 0), .ref (bd 6), .ref (bd 7), .ref (bd 8), .ref (bd 9), .ref (bd 10), .ref (bd 11), .ref (bd 12), .ref (bd 13), .ref (bd 14)])), ((bd 1), .inl (cy 0, 130, .inl (nIf f_))), ((bd 8), .inl (cy 0, 16, .inl (nIf (fil (cutF k_ (f_ 0)) o1_ (f_ 0))))), ((bd 9), .inl (cy 0, 16, .inl (nIf o2_))), ((bd 10), .inl (cy 0, 16, .inl (nIf o3_))), ((bd 12), .inl (cy 0, 16, .inl (nIf nx_)))] := hD
  refine lv_aload_n hx hb dX8_laysByCut_9 rfl (lv_at hl 0 rfl) ?_
  refine lv_aload_n hx hb dX8_laysByCut_10 rfl (lv_at hl 0 rfl) ?_
  refine va_get (D := D) (ci := 5) (v := .ref (bd 9)) (C := RX8) (T := TX8) (N := 19) hx hb hts (fun w h => List.mem_cons_of_mem _ (zinX8 w h)) hown hK.1 hP 0 rfl rfl 13 (by decide) (hts _ (List.mem_cons_of_mem _ zw_82)) (fun _ h9 => h9) rfl dX8_laysByCut_11 ?_
  refine lv_aload_n hx hb dX8_laysByCut_14 rfl (lv_at hl 0 rfl) ?_
  refine va_get (D := D) (ci := 5) (v := .ref (bd 8)) (C := RX8) (T := TX8) (N := 19) hx hb hts (fun w h => List.mem_cons_of_mem _ (zinX8 w h)) hown hK.1 hP 0 rfl rfl 12 (by decide) (hts _ (List.mem_cons_of_mem _ zw_81)) (fun _ h9 => h9) rfl dX8_laysByCut_15 ?_
  refine zcWv (As := [.ref (bd 9), .ref (bd 8)]) (rest := []) (wr := [((bd 10), .inl (cy 0, 16, .inl (nIf o3_))), ((bd 12), .inl (cy 0, 16, .inl (nIf nx_)))]) ⟨hx, hb, hml, hown, hts⟩ (c_X8_laysInverse l D cy H.size bd um_ ln_ at_ iw_ f_ (bd 9) o2_ (bd 8) (fil (cutF k_ (f_ 0)) o1_ (f_ 0)) (by omega) (fun z_ hz_ => by rw [fil_in hz_]; exact Nat.lt_of_lt_of_le (cutF_lt (by omega) hz_) (by omega)) (fun y_ z_ hy_ hz_ e_ => by rw [fil_in hy_, fil_in hz_] at e_; exact cutF_inj hk hy_ hz_ e_)) (cwV 2 hts (zG_V zw_525 zw_526 zw_527 zw_5 zw_528) rfl rfl rfl zd_X8_laysInverse ⟨Nat.le_of_ble_eq_true rfl, Nat.le_of_ble_eq_true rfl⟩) hK hP hD hS hA [0, 1, 3, 2] [4, 5] [2, 3, 5, 4, 0, 1] rfl (by decide) rfl (by decide) (by decide) (w2 := (fun u_ : (Nat → Nat) => ([((bd 0), .inr (5, [.int (nI 0), .ref (bd 1), .ref (bd 2), .int (nI um_), .ref (bd 3), .ref (bd 4), .ref (bd 5), .int (nI ln_), .int (nI at_), .int (if iw_ = true then 1 else 0), .ref (bd 6), .ref (bd 7), .ref (bd 8), .ref (bd 9), .ref (bd 10), .ref (bd 11), .ref (bd 12), .ref (bd 13), .ref (bd 14)])), ((bd 1), .inl (cy 0, 130, .inl (nIf f_))), ((bd 8), .inl (cy 0, 16, .inl (nIf (fil (cutF k_ (f_ 0)) o1_ (f_ 0))))), ((bd 9), .inl (cy 0, 16, .inl (nIf u_))), ((bd 10), .inl (cy 0, 16, .inl (nIf o3_))), ((bd 12), .inl (cy 0, 16, .inl (nIf nx_)))] : va_W))) (fun _ => rfl) (by decide) rfl rfl rfl rfl hl.1 rfl (Nat.le_of_ble_eq_true rfl) dX8_laysByCut_18 ⟨Nat.zero_le _, Nat.zero_le _⟩ (fun  u18 H locs h18 hP hD hS => ?_)
  obtain ⟨w_18, rfl⟩ : ∃ z_, z_ = u18 := ⟨_, rfl⟩
  have h18 : ∀ z_, z_ < f_ 0 → w_18 ((fil (cutF k_ (f_ 0)) o1_ (f_ 0)) z_) = z_ := h18
  have hP : va_P D vwCl [((bd 0), .inr (5, [.int (nI 0), .ref (bd 1), .ref (bd 2), .int (nI um_), .ref (bd 3), .ref (bd 4), .ref (bd 5), .int (nI ln_), .int (nI at_), .int (if iw_ = true then 1 else 0), .ref (bd 6), .ref (bd 7), .ref (bd 8), .ref (bd 9), .ref (bd 10), .ref (bd 11), .ref (bd 12), .ref (bd 13), .ref (bd 14)])), ((bd 1), .inl (cy 0, 130, .inl (nIf f_))), ((bd 8), .inl (cy 0, 16, .inl (nIf (fil (cutF k_ (f_ 0)) o1_ (f_ 0))))), ((bd 9), .inl (cy 0, 16, .inl (nIf w_18))), ((bd 10), .inl (cy 0, 16, .inl (nIf o3_))), ((bd 12), .inl (cy 0, 16, .inl (nIf nx_)))] H := hP
  have hD : va_D zA [((bd 0), .inr (5, [.int (nI 0), .ref (bd 1), .ref (bd 2), .int (nI um_), .ref (bd 3), .ref (bd 4), .ref (bd 5), .int (nI ln_), .int (nI at_), .int (if iw_ = true then 1 else 0), .ref (bd 6), .ref (bd 7), .ref (bd 8), .ref (bd 9), .ref (bd 10), .ref (bd 11), .ref (bd 12), .ref (bd 13), .ref (bd 14)])), ((bd 1), .inl (cy 0, 130, .inl (nIf f_))), ((bd 8), .inl (cy 0, 16, .inl (nIf (fil (cutF k_ (f_ 0)) o1_ (f_ 0))))), ((bd 9), .inl (cy 0, 16, .inl (nIf w_18))), ((bd 10), .inl (cy 0, 16, .inl (nIf o3_))), ((bd 12), .inl (cy 0, 16, .inl (nIf nx_)))] := hD
  refine lv_aload_n hx hb dX8_laysByCut_21 rfl (lv_at hl 0 rfl) ?_
  refine lv_aload_n hx hb dX8_laysByCut_22 rfl (lv_at hl 0 rfl) ?_
  refine va_get (D := D) (ci := 5) (v := .ref (bd 10)) (C := RX8) (T := TX8) (N := 19) hx hb hts (fun w h => List.mem_cons_of_mem _ (zinX8 w h)) hown hK.1 hP 0 rfl rfl 14 (by decide) (hts _ (List.mem_cons_of_mem _ zw_83)) (fun _ h9 => h9) rfl dX8_laysByCut_23 ?_
  refine lv_iload_n hx hb dX8_laysByCut_26 rfl (lv_at hl 1 rfl) ?_
  refine zcWv (As := [.ref (bd 10), .int a_]) (rest := []) (wr := [((bd 8), .inl (cy 0, 16, .inl (nIf (fil (cutF k_ (f_ 0)) o1_ (f_ 0))))), ((bd 9), .inl (cy 0, 16, .inl (nIf w_18))), ((bd 12), .inl (cy 0, 16, .inl (nIf nx_)))]) ⟨hx, hb, hml, hown, hts⟩ (c_X8_fetches l D cy H.size bd um_ ln_ at_ iw_ f_ (bd 10) o3_ a_ (by omega) (by omega)) (cwV 2 hts (zG_V zw_257 zw_258 zw_259 zw_5 zw_260) rfl rfl rfl zd_X8_fetches ⟨Nat.le_of_ble_eq_true rfl, Nat.le_of_ble_eq_true rfl⟩) hK hP hD hS hA [0, 1, 4] [2, 3, 5] [3, 4, 0, 1, 5, 2] rfl (by decide) rfl (by decide) (by decide) (w2 := (fun u_ : Unit => ([((bd 0), .inr (5, [.int (nI 0), .ref (bd 1), .ref (bd 2), .int (nI um_), .ref (bd 3), .ref (bd 4), .ref (bd 5), .int (nI ln_), .int (nI at_), .int (if iw_ = true then 1 else 0), .ref (bd 6), .ref (bd 7), .ref (bd 8), .ref (bd 9), .ref (bd 10), .ref (bd 11), .ref (bd 12), .ref (bd 13), .ref (bd 14)])), ((bd 1), .inl (cy 0, 130, .inl (nIf f_))), ((bd 8), .inl (cy 0, 16, .inl (nIf (fil (cutF k_ (f_ 0)) o1_ (f_ 0))))), ((bd 9), .inl (cy 0, 16, .inl (nIf w_18))), ((bd 10), .inl (cy 0, 16, .inl (nIf (fil (gTo f_ a_) o3_ (f_ 0))))), ((bd 12), .inl (cy 0, 16, .inl (nIf nx_)))] : va_W))) (fun _ => rfl) (by decide) rfl rfl rfl rfl hl.1 rfl (Nat.le_of_ble_eq_true rfl) dX8_laysByCut_27 ⟨Nat.zero_le _, Nat.zero_le _⟩ (fun  u27 H locs h27 hP hD hS => ?_)
  have h27 : True := h27
  have hP : va_P D vwCl [((bd 0), .inr (5, [.int (nI 0), .ref (bd 1), .ref (bd 2), .int (nI um_), .ref (bd 3), .ref (bd 4), .ref (bd 5), .int (nI ln_), .int (nI at_), .int (if iw_ = true then 1 else 0), .ref (bd 6), .ref (bd 7), .ref (bd 8), .ref (bd 9), .ref (bd 10), .ref (bd 11), .ref (bd 12), .ref (bd 13), .ref (bd 14)])), ((bd 1), .inl (cy 0, 130, .inl (nIf f_))), ((bd 8), .inl (cy 0, 16, .inl (nIf (fil (cutF k_ (f_ 0)) o1_ (f_ 0))))), ((bd 9), .inl (cy 0, 16, .inl (nIf w_18))), ((bd 10), .inl (cy 0, 16, .inl (nIf (fil (gTo f_ a_) o3_ (f_ 0))))), ((bd 12), .inl (cy 0, 16, .inl (nIf nx_)))] H := hP
  have hD : va_D zA [((bd 0), .inr (5, [.int (nI 0), .ref (bd 1), .ref (bd 2), .int (nI um_), .ref (bd 3), .ref (bd 4), .ref (bd 5), .int (nI ln_), .int (nI at_), .int (if iw_ = true then 1 else 0), .ref (bd 6), .ref (bd 7), .ref (bd 8), .ref (bd 9), .ref (bd 10), .ref (bd 11), .ref (bd 12), .ref (bd 13), .ref (bd 14)])), ((bd 1), .inl (cy 0, 130, .inl (nIf f_))), ((bd 8), .inl (cy 0, 16, .inl (nIf (fil (cutF k_ (f_ 0)) o1_ (f_ 0))))), ((bd 9), .inl (cy 0, 16, .inl (nIf w_18))), ((bd 10), .inl (cy 0, 16, .inl (nIf (fil (gTo f_ a_) o3_ (f_ 0))))), ((bd 12), .inl (cy 0, 16, .inl (nIf nx_)))] := hD
  refine lv_iconst (v := nI 0) hx hb dX8_laysByCut_30 (by decide) ?_
  refine lv_istore_n (lv' := [(3, .int (nI 0)), (0, .ref (bd 0)), (1, .int a_), (2, .int (nI k_))]) hx hb dX8_laysByCut_31 rfl hl (by decide) rfl (fun ls hl => ?_)
  have L32 : ∀ (kf_ : Nat) (i_ : Nat) (nx_ : Nat → Nat) (hi : i_ ≤ f_ 0) (hn_ : ∀ z_, z_ < i_ → nx_ z_ = nb (becL x_ k_ (f_ 0)) z_), f_ 0 - i_ < kf_ → ∀ (H : Heap) (locs : List Loc), va_P D vwCl [((bd 0), .inr (5, [.int (nI 0), .ref (bd 1), .ref (bd 2), .int (nI um_), .ref (bd 3), .ref (bd 4), .ref (bd 5), .int (nI ln_), .int (nI at_), .int (if iw_ = true then 1 else 0), .ref (bd 6), .ref (bd 7), .ref (bd 8), .ref (bd 9), .ref (bd 10), .ref (bd 11), .ref (bd 12), .ref (bd 13), .ref (bd 14)])), ((bd 1), .inl (cy 0, 130, .inl (nIf f_))), ((bd 8), .inl (cy 0, 16, .inl (nIf (fil (cutF k_ (f_ 0)) o1_ (f_ 0))))), ((bd 9), .inl (cy 0, 16, .inl (nIf w_18))), ((bd 10), .inl (cy 0, 16, .inl (nIf (fil (gTo f_ a_) o3_ (f_ 0))))), ((bd 12), .inl (cy 0, 16, .inl (nIf nx_)))] H → va_D zA [((bd 0), .inr (5, [.int (nI 0), .ref (bd 1), .ref (bd 2), .int (nI um_), .ref (bd 3), .ref (bd 4), .ref (bd 5), .int (nI ln_), .int (nI at_), .int (if iw_ = true then 1 else 0), .ref (bd 6), .ref (bd 7), .ref (bd 8), .ref (bd 9), .ref (bd 10), .ref (bd 11), .ref (bd 12), .ref (bd 13), .ref (bd 14)])), ((bd 1), .inl (cy 0, 130, .inl (nIf f_))), ((bd 8), .inl (cy 0, 16, .inl (nIf (fil (cutF k_ (f_ 0)) o1_ (f_ 0))))), ((bd 9), .inl (cy 0, 16, .inl (nIf w_18))), ((bd 10), .inl (cy 0, 16, .inl (nIf (fil (gTo f_ a_) o3_ (f_ 0))))), ((bd 12), .inl (cy 0, 16, .inl (nIf nx_)))] → va_S zA zs.heap H locs → ∀ ls : Array Slot, lv_has ls 4 [(0, .ref (bd 0)), (1, .int a_), (2, .int (nI k_)), (3, .int (nI i_))] → W zp l ze r_X8_laysByCut zs zm za zb zme zc H locs 0 0 Q (F0 zm 32 ls []) := by
    intro kf_
    induction kf_ with
    | zero => intro i_ nx_ hi hn_ hk_; exact absurd hk_ (Nat.not_lt_zero _)
    | succ kf_ ih32 =>
      intro i_ nx_ hi hn_ hk_ H locs hP hD hS ls hl
      refine lv_iload_n hx hb dX8_laysByCut_32 rfl (lv_at hl 3 rfl) ?_
      refine lv_aload_n hx hb dX8_laysByCut_33 rfl (lv_at hl 0 rfl) ?_
      refine va_get (D := D) (ci := 5) (v := .ref (bd 1)) (C := RX8) (T := TX8) (N := 19) hx hb hts (fun w h => List.mem_cons_of_mem _ (zinX8 w h)) hown hK.1 hP 0 rfl rfl 1 (by decide) (hts _ (List.mem_cons_of_mem _ zw_74)) (fun _ h9 => h9) rfl dX8_laysByCut_34 ?_
      refine lv_iconst (v := nI 0) hx hb dX8_laysByCut_37 (by decide) ?_
      refine zi_iald (v := nI (f_ 0)) hx hb hK hP 1 rfl (by omega) (by omega) rfl dX8_laysByCut_38 ?_
      refine zb_ge (a := i_) (b := f_ 0) (tgt := 70) hx hb dX8_laysByCut_39 (by decide) (by omega) (by omega) (fun c39 => ?_) (fun c39 => ?_)
      · skip
        exact kr ((fil (cutF k_ (f_ 0)) o1_ (f_ 0)), w_18, (fil (gTo f_ a_) o3_ (f_ 0)), nx_) _ _ _ _ dX8_laysByCut_70 (fun z_ hz_ => hn_ z_ (by omega)) hP hD hS
      · skip
        have hb42 := lay_bec hwx (by omega) hk (show i_ < f_ 0 by omega) hX h18
        refine lv_aload_n hx hb dX8_laysByCut_42 rfl (lv_at hl 0 rfl) ?_
        refine va_get (D := D) (ci := 5) (v := .ref (bd 12)) (C := RX8) (T := TX8) (N := 19) hx hb hts (fun w h => List.mem_cons_of_mem _ (zinX8 w h)) hown hK.1 hP 0 rfl rfl 16 (by decide) (hts _ (List.mem_cons_of_mem _ zw_85)) (fun _ h9 => h9) rfl dX8_laysByCut_43 ?_
        refine lv_iload_n hx hb dX8_laysByCut_46 rfl (lv_at hl 3 rfl) ?_
        refine lv_aload_n hx hb dX8_laysByCut_47 rfl (lv_at hl 0 rfl) ?_
        refine va_get (D := D) (ci := 5) (v := .ref (bd 8)) (C := RX8) (T := TX8) (N := 19) hx hb hts (fun w h => List.mem_cons_of_mem _ (zinX8 w h)) hown hK.1 hP 0 rfl rfl 12 (by decide) (hts _ (List.mem_cons_of_mem _ zw_81)) (fun _ h9 => h9) rfl dX8_laysByCut_48 ?_
        refine lv_aload_n hx hb dX8_laysByCut_51 rfl (lv_at hl 0 rfl) ?_
        refine va_get (D := D) (ci := 5) (v := .ref (bd 10)) (C := RX8) (T := TX8) (N := 19) hx hb hts (fun w h => List.mem_cons_of_mem _ (zinX8 w h)) hown hK.1 hP 0 rfl rfl 14 (by decide) (hts _ (List.mem_cons_of_mem _ zw_83)) (fun _ h9 => h9) rfl dX8_laysByCut_52 ?_
        refine lv_aload_n hx hb dX8_laysByCut_55 rfl (lv_at hl 0 rfl) ?_
        refine va_get (D := D) (ci := 5) (v := .ref (bd 9)) (C := RX8) (T := TX8) (N := 19) hx hb hts (fun w h => List.mem_cons_of_mem _ (zinX8 w h)) hown hK.1 hP 0 rfl rfl 13 (by decide) (hts _ (List.mem_cons_of_mem _ zw_82)) (fun _ h9 => h9) rfl dX8_laysByCut_56 ?_
        refine lv_iload_n hx hb dX8_laysByCut_59 rfl (lv_at hl 3 rfl) ?_
        refine zi_iald (v := nI (w_18 i_)) hx hb hK hP 3 rfl (by omega) (by omega) rfl dX8_laysByCut_60 ?_
        refine zi_iald (v := nI ((fil (gTo f_ a_) o3_ (f_ 0)) (w_18 i_))) hx hb hK hP 4 rfl (by omega) (by omega) rfl dX8_laysByCut_61 ?_
        refine zi_iald (v := nI ((fil (cutF k_ (f_ 0)) o1_ (f_ 0)) ((fil (gTo f_ a_) o3_ (f_ 0)) (w_18 i_)))) hx hb hK hP 2 rfl (by omega) (by omega) rfl dX8_laysByCut_62 ?_
        refine zi_iast hx hb hK hP hD hS 5 rfl (by omega) (by omega) dX8_laysByCut_63 (fun H locs hP hD hS => ?_)
        rw [upd_nIf] at hP hD
        have hP : va_P D vwCl [((bd 0), .inr (5, [.int (nI 0), .ref (bd 1), .ref (bd 2), .int (nI um_), .ref (bd 3), .ref (bd 4), .ref (bd 5), .int (nI ln_), .int (nI at_), .int (if iw_ = true then 1 else 0), .ref (bd 6), .ref (bd 7), .ref (bd 8), .ref (bd 9), .ref (bd 10), .ref (bd 11), .ref (bd 12), .ref (bd 13), .ref (bd 14)])), ((bd 1), .inl (cy 0, 130, .inl (nIf f_))), ((bd 8), .inl (cy 0, 16, .inl (nIf (fil (cutF k_ (f_ 0)) o1_ (f_ 0))))), ((bd 9), .inl (cy 0, 16, .inl (nIf w_18))), ((bd 10), .inl (cy 0, 16, .inl (nIf (fil (gTo f_ a_) o3_ (f_ 0))))), ((bd 12), .inl (cy 0, 16, .inl (nIf (uN1 nx_ i_ ((fil (cutF k_ (f_ 0)) o1_ (f_ 0)) ((fil (gTo f_ a_) o3_ (f_ 0)) (w_18 i_)))))))] H := hP
        have hD : va_D zA [((bd 0), .inr (5, [.int (nI 0), .ref (bd 1), .ref (bd 2), .int (nI um_), .ref (bd 3), .ref (bd 4), .ref (bd 5), .int (nI ln_), .int (nI at_), .int (if iw_ = true then 1 else 0), .ref (bd 6), .ref (bd 7), .ref (bd 8), .ref (bd 9), .ref (bd 10), .ref (bd 11), .ref (bd 12), .ref (bd 13), .ref (bd 14)])), ((bd 1), .inl (cy 0, 130, .inl (nIf f_))), ((bd 8), .inl (cy 0, 16, .inl (nIf (fil (cutF k_ (f_ 0)) o1_ (f_ 0))))), ((bd 9), .inl (cy 0, 16, .inl (nIf w_18))), ((bd 10), .inl (cy 0, 16, .inl (nIf (fil (gTo f_ a_) o3_ (f_ 0))))), ((bd 12), .inl (cy 0, 16, .inl (nIf (uN1 nx_ i_ ((fil (cutF k_ (f_ 0)) o1_ (f_ 0)) ((fil (gTo f_ a_) o3_ (f_ 0)) (w_18 i_)))))))] := hD
        refine lv_iinc (v := nI (i_ + 1)) (lv' := [(3, .int (nI (i_ + 1))), (0, .ref (bd 0)), (1, .int a_), (2, .int (nI k_))]) hx hb dX8_laysByCut_64 hl (k := 3) rfl (nI_1 _) (by decide) rfl (fun ls hl => ?_)
        refine lv_goto (tgt := 32) hx hb dX8_laysByCut_67 (by decide) ?_
        exact ih32 (i_ + 1) (uN1 nx_ i_ ((fil (cutF k_ (f_ 0)) o1_ (f_ 0)) ((fil (gTo f_ a_) o3_ (f_ 0)) (w_18 i_)))) (by omega) (fun z_ hz_ => by by_cases q_ : z_ = i_; subst q_; rw [uN1_s]; exact hb42.2.2; rw [uN1_n _ q_]; exact hn_ z_ (by omega)) (by omega) _ _ hP hD hS _ (lv_sub hl [1, 2, 3, 0] rfl)
  exact L32 (f_ 0 - 0 + 1) 0 nx_ (Nat.zero_le _) (fun z_ hz_ => absurd hz_ (Nat.not_lt_zero _)) (Nat.lt_succ_self _) _ _ hP hD hS _ (lv_sub hl [1, 2, 3, 0] rfl)
abbrev w_X8_byCut : List Cond := Cond.code yX8_byCut cX8_byCut 4 (some .int) :: zAll
abbrev r_X8_byCut : Room := { frames := 3, cells := 0, slots := 0, locals := 68 }
theorem zd_X8_byCut : yX8_byCut.cls = RX8 ∧ yX8_byCut.cls ≠ "java/lang/invoke/MethodHandle" ∧ yX8_byCut.cls ≠ "java/lang/invoke/VarHandle" ∧ (parseMethodDescriptor yX8_byCut.desc).map (fun d => d.parameters.length) = some 3 := by decide +kernel
set_option maxHeartbeats 4000000 in
set_option maxRecDepth 100000 in
theorem c_X8_byCut (l : Launch) (D : va_G) (cy : Nat → ClassId) (sz : Nat) (bd : Nat → Nat) (um_ : Nat) (ln_ : Nat) (at_ : Nat) (iw_ : Bool) (f_ : Nat → Nat) (m_ : MT) (o1_ : Nat → Nat) (o2_ : Nat → Nat) (o3_ : Nat → Nat) (nx_ : Nat → Nat) (a_ : Int32) (b_ : Int32) (p_ : Int32) (hw : TVok m_.1) (hR : RowR m_.1 f_) : zWi l yX8_byCut w_X8_byCut r_X8_byCut D cy [((bd 0), .inr (5, [.int (nI 0), .ref (bd 1), .ref (bd 2), .int (nI um_), .ref (bd 3), .ref (bd 4), .ref (bd 5), .int (nI ln_), .int (nI at_), .int (if iw_ = true then 1 else 0), .ref (bd 6), .ref (bd 7), .ref (bd 8), .ref (bd 9), .ref (bd 10), .ref (bd 11), .ref (bd 12), .ref (bd 13), .ref (bd 14)])), ((bd 1), .inl (cy 0, 130, .inl (nIf f_))), ((bd 8), .inl (cy 0, 16, .inl (nIf o1_))), ((bd 9), .inl (cy 0, 16, .inl (nIf o2_))), ((bd 10), .inl (cy 0, 16, .inl (nIf o3_))), ((bd 12), .inl (cy 0, 16, .inl (nIf nx_)))] sz [.ref (bd 0), .int a_, .int b_, .int p_] (fun (r_ : Int32) (u : (Nat → Nat) × (Nat → Nat) × (Nat → Nat) × (Nat → Nat)) => r_ = (qByCut m_ a_ b_ p_) ∧ True) (fun u : (Nat → Nat) × (Nat → Nat) × (Nat → Nat) × (Nat → Nat) => ([((bd 0), .inr (5, [.int (nI 0), .ref (bd 1), .ref (bd 2), .int (nI um_), .ref (bd 3), .ref (bd 4), .ref (bd 5), .int (nI ln_), .int (nI at_), .int (if iw_ = true then 1 else 0), .ref (bd 6), .ref (bd 7), .ref (bd 8), .ref (bd 9), .ref (bd 10), .ref (bd 11), .ref (bd 12), .ref (bd 13), .ref (bd 14)])), ((bd 1), .inl (cy 0, 130, .inl (nIf f_))), ((bd 8), .inl (cy 0, 16, .inl (nIf u.1))), ((bd 9), .inl (cy 0, 16, .inl (nIf u.2.1))), ((bd 10), .inl (cy 0, 16, .inl (nIf u.2.2.1))), ((bd 12), .inl (cy 0, 16, .inl (nIf u.2.2.2)))] : va_W)) := by
  refine zOfW (cc := cX8_byCut) (maxL := 4) (ty := .int) (by decide) rfl (Nat.le_of_ble_eq_true rfl) ?_
  intro zp ze zs zm za zb zme zc hx hb hml hts hown hP hK zA hD hA Q kr ls hl
  have hS : va_S zA zs.heap zs.heap [] := va_S.rf
  have hown : zs.vm.findClass RX8 = some zm.cls := hown
  have hl : lv_has ls 4 [(0, .ref (bd 0)), (1, .int a_), (2, .int b_), (3, .int p_)] := hl
  have hn2 := ok_2 hw
  have hn16 := ok_n hw
  have hC6 := ok_C hw
  have hwP := ok_P hw
  have hf0 : f_ 0 = mN m_ := hR.1
  have hf1 : f_ 1 = mC m_ := hR.2.1
  have hk0_ : (nI 0).toInt = 0 := rfl
  have hk9_ : (nI 999).toInt = 999 := rfl
  have hk8_ : (-999 : Int32).toInt = -999 := rfl
  refine lv_aload_n hx hb dX8_byCut_0 rfl (lv_at hl 0 rfl) ?_
  refine lv_iconst (v := nI 0) hx hb dX8_byCut_1 (by decide) ?_
  refine va_put (D := D) (ci := 5) (v := .int (nI 0)) (ty := .int) (C := RX8) (T := TX8) (N := 19) hx hb hts (fun w h => List.mem_cons_of_mem _ (zinX8 w h)) tyX8 tyX8_ok nmX8 hown hK.1 hP hD hS 0 rfl rfl 0 (by decide) (hts _ (List.mem_cons_of_mem _ zw_88)) (fun _ h9 => h9) rfl (tyX8_ok 0 (by decide)) rfl rfl (Nat.le_of_ble_eq_true rfl) dX8_byCut_2 (fun H locs hP hD hS => ?_)
  have hP : va_P D vwCl [((bd 0), .inr (5, [.int (nI 0), .ref (bd 1), .ref (bd 2), .int (nI um_), .ref (bd 3), .ref (bd 4), .ref (bd 5), .int (nI ln_), .int (nI at_), .int (if iw_ = true then 1 else 0), .ref (bd 6), .ref (bd 7), .ref (bd 8), .ref (bd 9), .ref (bd 10), .ref (bd 11), .ref (bd 12), .ref (bd 13), .ref (bd 14)])), ((bd 1), .inl (cy 0, 130, .inl (nIf f_))), ((bd 8), .inl (cy 0, 16, .inl (nIf o1_))), ((bd 9), .inl (cy 0, 16, .inl (nIf o2_))), ((bd 10), .inl (cy 0, 16, .inl (nIf o3_))), ((bd 12), .inl (cy 0, 16, .inl (nIf nx_)))] H := hP
  have hD : va_D zA [((bd 0), .inr (5, [.int (nI 0), .ref (bd 1), .ref (bd 2), .int (nI um_), .ref (bd 3), .ref (bd 4), .ref (bd 5), .int (nI ln_), .int (nI at_), .int (if iw_ = true then 1 else 0), .ref (bd 6), .ref (bd 7), .ref (bd 8), .ref (bd 9), .ref (bd 10), .ref (bd 11), .ref (bd 12), .ref (bd 13), .ref (bd 14)])), ((bd 1), .inl (cy 0, 130, .inl (nIf f_))), ((bd 8), .inl (cy 0, 16, .inl (nIf o1_))), ((bd 9), .inl (cy 0, 16, .inl (nIf o2_))), ((bd 10), .inl (cy 0, 16, .inl (nIf o3_))), ((bd 12), .inl (cy 0, 16, .inl (nIf nx_)))] := hD
  refine lv_aload_n hx hb dX8_byCut_5 rfl (lv_at hl 0 rfl) ?_
  refine lv_iload_n hx hb dX8_byCut_6 rfl (lv_at hl 1 rfl) ?_
  refine zcRi (As := [.int a_]) (rest := []) ⟨hx, hb, hml, hown, hts⟩ (c_X8_isMark l D cy bd um_ ln_ at_ iw_ f_ a_ (by omega)) (cwV 1 hts (zG_V zw_253 zw_254 zw_255 zw_5 zw_256) rfl rfl rfl zd_X8_isMark ⟨Nat.le_of_ble_eq_true rfl, Nat.le_of_ble_eq_true rfl⟩) hK hP [0, 1] rfl rfl rfl rfl rfl hl.1 rfl (Nat.le_of_ble_eq_true rfl) dX8_byCut_7 ⟨Nat.zero_le _, Nat.zero_le _⟩ (fun r7 h7 => ?_)
  subst h7
  refine zq_eq (tgt := 21) hx hb dX8_byCut_10 (by decide) (fun c10 => ?_) (fun c10 => ?_)
  · skip
    refine lv_iconst (v := (-1)) hx hb dX8_byCut_21 (by decide) ?_
    exact kr _ (o1_, o2_, o3_, nx_) _ _ _ _ dX8_byCut_22 (vp_nar_int _) ⟨(by unfold qByCut; rw [if_neg (fun q_ => c10 (by have := bM_iff.mp q_.1; omega))]), trivial⟩ hP hD hS
  · skip
    refine lv_aload_n hx hb dX8_byCut_13 rfl (lv_at hl 0 rfl) ?_
    refine lv_iload_n hx hb dX8_byCut_14 rfl (lv_at hl 3 rfl) ?_
    refine zcRi (As := [.int p_]) (rest := []) ⟨hx, hb, hml, hown, hts⟩ (c_X8_isPlace l D cy bd um_ ln_ at_ iw_ f_ p_ (by omega)) (cwV 1 hts (zG_V zw_222 zw_223 zw_224 zw_5 zw_225) rfl rfl rfl zd_X8_isPlace ⟨Nat.le_of_ble_eq_true rfl, Nat.le_of_ble_eq_true rfl⟩) hK hP [0, 1] rfl rfl rfl rfl rfl hl.1 rfl (Nat.le_of_ble_eq_true rfl) dX8_byCut_15 ⟨Nat.zero_le _, Nat.zero_le _⟩ (fun r15 h15 => ?_)
    subst h15
    refine zq_ne (tgt := 23) hx hb dX8_byCut_18 (by decide) (fun c18 => ?_) (fun c18 => ?_)
    · skip
      refine lv_aload_n hx hb dX8_byCut_23 rfl (lv_at hl 0 rfl) ?_
      refine lv_iload_n hx hb dX8_byCut_24 rfl (lv_at hl 2 rfl) ?_
      refine zcRi (As := [.int b_]) (rest := []) ⟨hx, hb, hml, hown, hts⟩ (c_X8_isPlace l D cy bd um_ ln_ at_ iw_ f_ b_ (by omega)) (cwV 1 hts (zG_V zw_222 zw_223 zw_224 zw_5 zw_225) rfl rfl rfl zd_X8_isPlace ⟨Nat.le_of_ble_eq_true rfl, Nat.le_of_ble_eq_true rfl⟩) hK hP [0, 1] rfl rfl rfl rfl rfl hl.1 rfl (Nat.le_of_ble_eq_true rfl) dX8_byCut_25 ⟨Nat.zero_le _, Nat.zero_le _⟩ (fun r25 h25 => ?_)
      subst h25
      refine zq_ne (tgt := 34) hx hb dX8_byCut_28 (by decide) (fun c28 => ?_) (fun c28 => ?_)
      · skip
        have hba : bM m_ a_ = true := bM_iff.mpr (by omega)
        obtain ⟨xa_, hxa_⟩ : ∃ zz_, zz_ = mM m_ (ix a_) := ⟨_, rfl⟩
        obtain ⟨k_, hk_, ek_⟩ := zz_rng (n := f_ 0) (x := b_) (by omega)
        rw [ek_] at hl
        obtain ⟨j_, hj_, ej_⟩ := zz_rng (n := f_ 0) (x := p_) (by omega)
        rw [ej_] at hl
        refine lv_aload_n hx hb dX8_byCut_34 rfl (lv_at hl 0 rfl) ?_
        refine lv_iload_n hx hb dX8_byCut_35 rfl (lv_at hl 1 rfl) ?_
        refine lv_iload_n hx hb dX8_byCut_36 rfl (lv_at hl 2 rfl) ?_
        refine zcWv (As := [.int a_, .int (nI k_)]) (rest := []) (wr := []) ⟨hx, hb, hml, hown, hts⟩ (c_X8_laysByCut l D cy H.size bd um_ ln_ at_ iw_ f_ m_ o1_ o2_ o3_ nx_ a_ k_ xa_ (by omega) (by omega) hba (by omega) hxa_) (cwV 2 hts (zG_V zw_640 zw_641 zw_642 zw_5 zw_643) rfl rfl rfl zd_X8_laysByCut ⟨Nat.le_of_ble_eq_true rfl, Nat.le_of_ble_eq_true rfl⟩) hK hP hD hS hA [0, 1, 2, 3, 4, 5] [] [0, 1, 2, 3, 4, 5] rfl (by decide) rfl (by decide) (by decide) (w2 := (fun u_ : (Nat → Nat) × (Nat → Nat) × (Nat → Nat) × (Nat → Nat) => ([((bd 0), .inr (5, [.int (nI 0), .ref (bd 1), .ref (bd 2), .int (nI um_), .ref (bd 3), .ref (bd 4), .ref (bd 5), .int (nI ln_), .int (nI at_), .int (if iw_ = true then 1 else 0), .ref (bd 6), .ref (bd 7), .ref (bd 8), .ref (bd 9), .ref (bd 10), .ref (bd 11), .ref (bd 12), .ref (bd 13), .ref (bd 14)])), ((bd 1), .inl (cy 0, 130, .inl (nIf f_))), ((bd 8), .inl (cy 0, 16, .inl (nIf u_.1))), ((bd 9), .inl (cy 0, 16, .inl (nIf u_.2.1))), ((bd 10), .inl (cy 0, 16, .inl (nIf u_.2.2.1))), ((bd 12), .inl (cy 0, 16, .inl (nIf u_.2.2.2)))] : va_W))) (fun _ => rfl) (by decide) rfl rfl rfl rfl hl.1 rfl (Nat.le_of_ble_eq_true rfl) dX8_byCut_37 ⟨Nat.zero_le _, Nat.zero_le _⟩ (fun  u37 H locs h37 hP hD hS => ?_)
        obtain ⟨y1_37, y2_37, y3_37, yx_37⟩ := u37
        have h37 : RowX (f_ 0) yx_37 (becL xa_ k_ (f_ 0)) := h37
        have hP : va_P D vwCl [((bd 0), .inr (5, [.int (nI 0), .ref (bd 1), .ref (bd 2), .int (nI um_), .ref (bd 3), .ref (bd 4), .ref (bd 5), .int (nI ln_), .int (nI at_), .int (if iw_ = true then 1 else 0), .ref (bd 6), .ref (bd 7), .ref (bd 8), .ref (bd 9), .ref (bd 10), .ref (bd 11), .ref (bd 12), .ref (bd 13), .ref (bd 14)])), ((bd 1), .inl (cy 0, 130, .inl (nIf f_))), ((bd 8), .inl (cy 0, 16, .inl (nIf y1_37))), ((bd 9), .inl (cy 0, 16, .inl (nIf y2_37))), ((bd 10), .inl (cy 0, 16, .inl (nIf y3_37))), ((bd 12), .inl (cy 0, 16, .inl (nIf yx_37)))] H := hP
        have hD : va_D zA [((bd 0), .inr (5, [.int (nI 0), .ref (bd 1), .ref (bd 2), .int (nI um_), .ref (bd 3), .ref (bd 4), .ref (bd 5), .int (nI ln_), .int (nI at_), .int (if iw_ = true then 1 else 0), .ref (bd 6), .ref (bd 7), .ref (bd 8), .ref (bd 9), .ref (bd 10), .ref (bd 11), .ref (bd 12), .ref (bd 13), .ref (bd 14)])), ((bd 1), .inl (cy 0, 130, .inl (nIf f_))), ((bd 8), .inl (cy 0, 16, .inl (nIf y1_37))), ((bd 9), .inl (cy 0, 16, .inl (nIf y2_37))), ((bd 10), .inl (cy 0, 16, .inl (nIf y3_37))), ((bd 12), .inl (cy 0, 16, .inl (nIf yx_37)))] := hD
        refine lv_aload_n hx hb dX8_byCut_40 rfl (lv_at hl 0 rfl) ?_
        refine va_get (D := D) (ci := 5) (v := .ref (bd 12)) (C := RX8) (T := TX8) (N := 19) hx hb hts (fun w h => List.mem_cons_of_mem _ (zinX8 w h)) hown hK.1 hP 0 rfl rfl 16 (by decide) (hts _ (List.mem_cons_of_mem _ zw_85)) (fun _ h9 => h9) rfl dX8_byCut_41 ?_
        refine lv_iload_n hx hb dX8_byCut_44 rfl (lv_at hl 3 rfl) ?_
        refine zi_iald (v := nI (yx_37 j_)) hx hb hK hP 5 rfl (by omega) (by omega) rfl dX8_byCut_45 ?_
        exact kr _ (y1_37, y2_37, y3_37, yx_37) _ _ _ _ dX8_byCut_46 (vp_nar_int _) ⟨(by unfold qByCut; rw [if_pos ⟨hba, bP_iff.mpr (by omega)⟩, if_pos (bP_iff.mpr (by omega)), ek_, ej_, ix_nI (by omega), ix_nI (by omega), h37 j_ (by omega), ← hxa_, ← hf0]), trivial⟩ hP hD hS
      · skip
        refine lv_bipush (v := (-2)) hx hb dX8_byCut_31 (by decide) ?_
        exact kr _ (o1_, o2_, o3_, nx_) _ _ _ _ dX8_byCut_33 (vp_nar_int _) ⟨(by unfold qByCut; rw [if_pos ⟨bM_iff.mpr (by omega), bP_iff.mpr (by omega)⟩, if_neg (fun q_ => c28 (by have := bP_iff.mp q_; omega))]), trivial⟩ hP hD hS
    · skip
      refine lv_iconst (v := (-1)) hx hb dX8_byCut_21 (by decide) ?_
      exact kr _ (o1_, o2_, o3_, nx_) _ _ _ _ dX8_byCut_22 (vp_nar_int _) ⟨(by unfold qByCut; rw [if_neg (fun q_ => c18 (by have := bP_iff.mp q_.2; omega))]), trivial⟩ hP hD hS
abbrev w_X8_becomes : List Cond := Cond.code yX8_becomes cX8_becomes 3 (some .int) :: zAll
abbrev r_X8_becomes : Room := { frames := 3, cells := 0, slots := 0, locals := 68 }
theorem zd_X8_becomes : yX8_becomes.cls = RX8 ∧ yX8_becomes.cls ≠ "java/lang/invoke/MethodHandle" ∧ yX8_becomes.cls ≠ "java/lang/invoke/VarHandle" ∧ (parseMethodDescriptor yX8_becomes.desc).map (fun d => d.parameters.length) = some 2 := by decide +kernel
set_option maxHeartbeats 4000000 in
set_option maxRecDepth 100000 in
theorem c_X8_becomes (l : Launch) (D : va_G) (cy : Nat → ClassId) (sz : Nat) (bd : Nat → Nat) (um_ : Nat) (ln_ : Nat) (at_ : Nat) (iw_ : Bool) (f_ : Nat → Nat) (m_ : MT) (o1_ : Nat → Nat) (o2_ : Nat → Nat) (o3_ : Nat → Nat) (nx_ : Nat → Nat) (a_ : Int32) (b_ : Int32) (hw : TVok m_.1) (hR : RowR m_.1 f_) : zWi l yX8_becomes w_X8_becomes r_X8_becomes D cy [((bd 0), .inr (5, [.int (nI 0), .ref (bd 1), .ref (bd 2), .int (nI um_), .ref (bd 3), .ref (bd 4), .ref (bd 5), .int (nI ln_), .int (nI at_), .int (if iw_ = true then 1 else 0), .ref (bd 6), .ref (bd 7), .ref (bd 8), .ref (bd 9), .ref (bd 10), .ref (bd 11), .ref (bd 12), .ref (bd 13), .ref (bd 14)])), ((bd 1), .inl (cy 0, 130, .inl (nIf f_))), ((bd 8), .inl (cy 0, 16, .inl (nIf o1_))), ((bd 9), .inl (cy 0, 16, .inl (nIf o2_))), ((bd 10), .inl (cy 0, 16, .inl (nIf o3_))), ((bd 12), .inl (cy 0, 16, .inl (nIf nx_)))] sz [.ref (bd 0), .int a_, .int b_] (fun (r_ : Int32) (u : (Nat → Nat) × (Nat → Nat) × (Nat → Nat) × (Nat → Nat)) => r_ = (qBecomes m_ a_ b_) ∧ True) (fun u : (Nat → Nat) × (Nat → Nat) × (Nat → Nat) × (Nat → Nat) => ([((bd 0), .inr (5, [.int (nI 0), .ref (bd 1), .ref (bd 2), .int (nI um_), .ref (bd 3), .ref (bd 4), .ref (bd 5), .int (nI ln_), .int (nI at_), .int (if iw_ = true then 1 else 0), .ref (bd 6), .ref (bd 7), .ref (bd 8), .ref (bd 9), .ref (bd 10), .ref (bd 11), .ref (bd 12), .ref (bd 13), .ref (bd 14)])), ((bd 1), .inl (cy 0, 130, .inl (nIf f_))), ((bd 8), .inl (cy 0, 16, .inl (nIf u.1))), ((bd 9), .inl (cy 0, 16, .inl (nIf u.2.1))), ((bd 10), .inl (cy 0, 16, .inl (nIf u.2.2.1))), ((bd 12), .inl (cy 0, 16, .inl (nIf u.2.2.2)))] : va_W)) := by
  refine zOfW (cc := cX8_becomes) (maxL := 3) (ty := .int) (by decide) rfl (Nat.le_of_ble_eq_true rfl) ?_
  intro zp ze zs zm za zb zme zc hx hb hml hts hown hP hK zA hD hA Q kr ls hl
  have hS : va_S zA zs.heap zs.heap [] := va_S.rf
  have hown : zs.vm.findClass RX8 = some zm.cls := hown
  have hl : lv_has ls 3 [(0, .ref (bd 0)), (1, .int a_), (2, .int b_)] := hl
  have hn2 := ok_2 hw
  have hn16 := ok_n hw
  have hC6 := ok_C hw
  have hwP := ok_P hw
  have hf0 : f_ 0 = mN m_ := hR.1
  have hf1 : f_ 1 = mC m_ := hR.2.1
  have hk0_ : (nI 0).toInt = 0 := rfl
  have hk9_ : (nI 999).toInt = 999 := rfl
  have hk8_ : (-999 : Int32).toInt = -999 := rfl
  refine lv_aload_n hx hb dX8_becomes_0 rfl (lv_at hl 0 rfl) ?_
  refine lv_iconst (v := nI 0) hx hb dX8_becomes_1 (by decide) ?_
  refine va_put (D := D) (ci := 5) (v := .int (nI 0)) (ty := .int) (C := RX8) (T := TX8) (N := 19) hx hb hts (fun w h => List.mem_cons_of_mem _ (zinX8 w h)) tyX8 tyX8_ok nmX8 hown hK.1 hP hD hS 0 rfl rfl 0 (by decide) (hts _ (List.mem_cons_of_mem _ zw_88)) (fun _ h9 => h9) rfl (tyX8_ok 0 (by decide)) rfl rfl (Nat.le_of_ble_eq_true rfl) dX8_becomes_2 (fun H locs hP hD hS => ?_)
  have hP : va_P D vwCl [((bd 0), .inr (5, [.int (nI 0), .ref (bd 1), .ref (bd 2), .int (nI um_), .ref (bd 3), .ref (bd 4), .ref (bd 5), .int (nI ln_), .int (nI at_), .int (if iw_ = true then 1 else 0), .ref (bd 6), .ref (bd 7), .ref (bd 8), .ref (bd 9), .ref (bd 10), .ref (bd 11), .ref (bd 12), .ref (bd 13), .ref (bd 14)])), ((bd 1), .inl (cy 0, 130, .inl (nIf f_))), ((bd 8), .inl (cy 0, 16, .inl (nIf o1_))), ((bd 9), .inl (cy 0, 16, .inl (nIf o2_))), ((bd 10), .inl (cy 0, 16, .inl (nIf o3_))), ((bd 12), .inl (cy 0, 16, .inl (nIf nx_)))] H := hP
  have hD : va_D zA [((bd 0), .inr (5, [.int (nI 0), .ref (bd 1), .ref (bd 2), .int (nI um_), .ref (bd 3), .ref (bd 4), .ref (bd 5), .int (nI ln_), .int (nI at_), .int (if iw_ = true then 1 else 0), .ref (bd 6), .ref (bd 7), .ref (bd 8), .ref (bd 9), .ref (bd 10), .ref (bd 11), .ref (bd 12), .ref (bd 13), .ref (bd 14)])), ((bd 1), .inl (cy 0, 130, .inl (nIf f_))), ((bd 8), .inl (cy 0, 16, .inl (nIf o1_))), ((bd 9), .inl (cy 0, 16, .inl (nIf o2_))), ((bd 10), .inl (cy 0, 16, .inl (nIf o3_))), ((bd 12), .inl (cy 0, 16, .inl (nIf nx_)))] := hD
  refine lv_aload_n hx hb dX8_becomes_5 rfl (lv_at hl 0 rfl) ?_
  refine lv_iload_n hx hb dX8_becomes_6 rfl (lv_at hl 1 rfl) ?_
  refine zcRi (As := [.int a_]) (rest := []) ⟨hx, hb, hml, hown, hts⟩ (c_X8_isMark l D cy bd um_ ln_ at_ iw_ f_ a_ (by omega)) (cwV 1 hts (zG_V zw_253 zw_254 zw_255 zw_5 zw_256) rfl rfl rfl zd_X8_isMark ⟨Nat.le_of_ble_eq_true rfl, Nat.le_of_ble_eq_true rfl⟩) hK hP [0, 1] rfl rfl rfl rfl rfl hl.1 rfl (Nat.le_of_ble_eq_true rfl) dX8_becomes_7 ⟨Nat.zero_le _, Nat.zero_le _⟩ (fun r7 h7 => ?_)
  subst h7
  refine zq_ne (tgt := 15) hx hb dX8_becomes_10 (by decide) (fun c10 => ?_) (fun c10 => ?_)
  · skip
    refine lv_aload_n hx hb dX8_becomes_15 rfl (lv_at hl 0 rfl) ?_
    refine lv_iload_n hx hb dX8_becomes_16 rfl (lv_at hl 2 rfl) ?_
    refine zcRi (As := [.int b_]) (rest := []) ⟨hx, hb, hml, hown, hts⟩ (c_X8_isPlace l D cy bd um_ ln_ at_ iw_ f_ b_ (by omega)) (cwV 1 hts (zG_V zw_222 zw_223 zw_224 zw_5 zw_225) rfl rfl rfl zd_X8_isPlace ⟨Nat.le_of_ble_eq_true rfl, Nat.le_of_ble_eq_true rfl⟩) hK hP [0, 1] rfl rfl rfl rfl rfl hl.1 rfl (Nat.le_of_ble_eq_true rfl) dX8_becomes_17 ⟨Nat.zero_le _, Nat.zero_le _⟩ (fun r17 h17 => ?_)
    subst h17
    refine zq_ne (tgt := 26) hx hb dX8_becomes_20 (by decide) (fun c20 => ?_) (fun c20 => ?_)
    · skip
      have hba : bM m_ a_ = true := bM_iff.mpr (by omega)
      obtain ⟨xa_, hxa_⟩ : ∃ zz_, zz_ = mM m_ (ix a_) := ⟨_, rfl⟩
      have hwa := ok_M hw (show ix a_ < mC m_ by unfold ix; omega)
      rw [← hf0, ← hxa_] at hwa
      obtain ⟨k_, hk_, ek_⟩ := zz_rng (n := f_ 0) (x := b_) (by omega)
      rw [ek_] at hl
      have hwb := bec_WF hwa (by omega) hk_
      refine lv_aload_n hx hb dX8_becomes_26 rfl (lv_at hl 0 rfl) ?_
      refine lv_iload_n hx hb dX8_becomes_27 rfl (lv_at hl 1 rfl) ?_
      refine lv_iload_n hx hb dX8_becomes_28 rfl (lv_at hl 2 rfl) ?_
      refine zcWv (As := [.int a_, .int (nI k_)]) (rest := []) (wr := []) ⟨hx, hb, hml, hown, hts⟩ (c_X8_laysByCut l D cy H.size bd um_ ln_ at_ iw_ f_ m_ o1_ o2_ o3_ nx_ a_ k_ xa_ (by omega) (by omega) hba (by omega) hxa_) (cwV 2 hts (zG_V zw_640 zw_641 zw_642 zw_5 zw_643) rfl rfl rfl zd_X8_laysByCut ⟨Nat.le_of_ble_eq_true rfl, Nat.le_of_ble_eq_true rfl⟩) hK hP hD hS hA [0, 1, 2, 3, 4, 5] [] [0, 1, 2, 3, 4, 5] rfl (by decide) rfl (by decide) (by decide) (w2 := (fun u_ : (Nat → Nat) × (Nat → Nat) × (Nat → Nat) × (Nat → Nat) => ([((bd 0), .inr (5, [.int (nI 0), .ref (bd 1), .ref (bd 2), .int (nI um_), .ref (bd 3), .ref (bd 4), .ref (bd 5), .int (nI ln_), .int (nI at_), .int (if iw_ = true then 1 else 0), .ref (bd 6), .ref (bd 7), .ref (bd 8), .ref (bd 9), .ref (bd 10), .ref (bd 11), .ref (bd 12), .ref (bd 13), .ref (bd 14)])), ((bd 1), .inl (cy 0, 130, .inl (nIf f_))), ((bd 8), .inl (cy 0, 16, .inl (nIf u_.1))), ((bd 9), .inl (cy 0, 16, .inl (nIf u_.2.1))), ((bd 10), .inl (cy 0, 16, .inl (nIf u_.2.2.1))), ((bd 12), .inl (cy 0, 16, .inl (nIf u_.2.2.2)))] : va_W))) (fun _ => rfl) (by decide) rfl rfl rfl rfl hl.1 rfl (Nat.le_of_ble_eq_true rfl) dX8_becomes_29 ⟨Nat.zero_le _, Nat.zero_le _⟩ (fun  u29 H locs h29 hP hD hS => ?_)
      obtain ⟨y1_29, y2_29, y3_29, yx_29⟩ := u29
      have h29 : RowX (f_ 0) yx_29 (becL xa_ k_ (f_ 0)) := h29
      have hP : va_P D vwCl [((bd 0), .inr (5, [.int (nI 0), .ref (bd 1), .ref (bd 2), .int (nI um_), .ref (bd 3), .ref (bd 4), .ref (bd 5), .int (nI ln_), .int (nI at_), .int (if iw_ = true then 1 else 0), .ref (bd 6), .ref (bd 7), .ref (bd 8), .ref (bd 9), .ref (bd 10), .ref (bd 11), .ref (bd 12), .ref (bd 13), .ref (bd 14)])), ((bd 1), .inl (cy 0, 130, .inl (nIf f_))), ((bd 8), .inl (cy 0, 16, .inl (nIf y1_29))), ((bd 9), .inl (cy 0, 16, .inl (nIf y2_29))), ((bd 10), .inl (cy 0, 16, .inl (nIf y3_29))), ((bd 12), .inl (cy 0, 16, .inl (nIf yx_29)))] H := hP
      have hD : va_D zA [((bd 0), .inr (5, [.int (nI 0), .ref (bd 1), .ref (bd 2), .int (nI um_), .ref (bd 3), .ref (bd 4), .ref (bd 5), .int (nI ln_), .int (nI at_), .int (if iw_ = true then 1 else 0), .ref (bd 6), .ref (bd 7), .ref (bd 8), .ref (bd 9), .ref (bd 10), .ref (bd 11), .ref (bd 12), .ref (bd 13), .ref (bd 14)])), ((bd 1), .inl (cy 0, 130, .inl (nIf f_))), ((bd 8), .inl (cy 0, 16, .inl (nIf y1_29))), ((bd 9), .inl (cy 0, 16, .inl (nIf y2_29))), ((bd 10), .inl (cy 0, 16, .inl (nIf y3_29))), ((bd 12), .inl (cy 0, 16, .inl (nIf yx_29)))] := hD
      refine lv_aload_n hx hb dX8_becomes_32 rfl (lv_at hl 0 rfl) ?_
      refine lv_aload_n hx hb dX8_becomes_33 rfl (lv_at hl 0 rfl) ?_
      refine va_get (D := D) (ci := 5) (v := .ref (bd 12)) (C := RX8) (T := TX8) (N := 19) hx hb hts (fun w h => List.mem_cons_of_mem _ (zinX8 w h)) hown hK.1 hP 0 rfl rfl 16 (by decide) (hts _ (List.mem_cons_of_mem _ zw_85)) (fun _ h9 => h9) rfl dX8_becomes_34 ?_
      refine zcWi (As := [.ref (bd 12)]) (rest := []) (wr := [((bd 8), .inl (cy 0, 16, .inl (nIf y1_29))), ((bd 9), .inl (cy 0, 16, .inl (nIf y2_29)))]) ⟨hx, hb, hml, hown, hts⟩ (c_X8_markAs l D cy H.size bd um_ ln_ at_ iw_ f_ m_ (bd 12) yx_29 (becL xa_ k_ (f_ 0)) y3_29 (by omega) (by omega) h29 hwb) (cwV 1 hts (zG_V zw_529 zw_530 zw_531 zw_5 zw_532) rfl rfl rfl zd_X8_markAs ⟨Nat.le_of_ble_eq_true rfl, Nat.le_of_ble_eq_true rfl⟩) hK hP hD hS hA [0, 1, 5, 4] [2, 3] [2, 3, 0, 1, 5, 4] rfl (by decide) rfl (by decide) (by decide) (w2 := (fun u_ : (Nat → Nat) => ([((bd 0), .inr (5, [.int (nI 0), .ref (bd 1), .ref (bd 2), .int (nI um_), .ref (bd 3), .ref (bd 4), .ref (bd 5), .int (nI ln_), .int (nI at_), .int (if iw_ = true then 1 else 0), .ref (bd 6), .ref (bd 7), .ref (bd 8), .ref (bd 9), .ref (bd 10), .ref (bd 11), .ref (bd 12), .ref (bd 13), .ref (bd 14)])), ((bd 1), .inl (cy 0, 130, .inl (nIf f_))), ((bd 8), .inl (cy 0, 16, .inl (nIf y1_29))), ((bd 9), .inl (cy 0, 16, .inl (nIf y2_29))), ((bd 10), .inl (cy 0, 16, .inl (nIf u_))), ((bd 12), .inl (cy 0, 16, .inl (nIf yx_29)))] : va_W))) (fun _ => rfl) (by decide) rfl rfl rfl rfl hl.1 rfl (Nat.le_of_ble_eq_true rfl) dX8_becomes_37 ⟨Nat.zero_le _, Nat.zero_le _⟩ (fun r37 u37 H locs h37 hP hD hS => ?_)
      obtain ⟨y3_37, rfl⟩ : ∃ z_, z_ = u37 := ⟨_, rfl⟩
      obtain ⟨hr37, h37⟩ := h37
      have hr37 : r37 = lowM (mM m_) (mC m_) (becL xa_ k_ (f_ 0)) := hr37
      have h37 : True := h37
      subst hr37
      have hP : va_P D vwCl [((bd 0), .inr (5, [.int (nI 0), .ref (bd 1), .ref (bd 2), .int (nI um_), .ref (bd 3), .ref (bd 4), .ref (bd 5), .int (nI ln_), .int (nI at_), .int (if iw_ = true then 1 else 0), .ref (bd 6), .ref (bd 7), .ref (bd 8), .ref (bd 9), .ref (bd 10), .ref (bd 11), .ref (bd 12), .ref (bd 13), .ref (bd 14)])), ((bd 1), .inl (cy 0, 130, .inl (nIf f_))), ((bd 8), .inl (cy 0, 16, .inl (nIf y1_29))), ((bd 9), .inl (cy 0, 16, .inl (nIf y2_29))), ((bd 10), .inl (cy 0, 16, .inl (nIf y3_37))), ((bd 12), .inl (cy 0, 16, .inl (nIf yx_29)))] H := hP
      have hD : va_D zA [((bd 0), .inr (5, [.int (nI 0), .ref (bd 1), .ref (bd 2), .int (nI um_), .ref (bd 3), .ref (bd 4), .ref (bd 5), .int (nI ln_), .int (nI at_), .int (if iw_ = true then 1 else 0), .ref (bd 6), .ref (bd 7), .ref (bd 8), .ref (bd 9), .ref (bd 10), .ref (bd 11), .ref (bd 12), .ref (bd 13), .ref (bd 14)])), ((bd 1), .inl (cy 0, 130, .inl (nIf f_))), ((bd 8), .inl (cy 0, 16, .inl (nIf y1_29))), ((bd 9), .inl (cy 0, 16, .inl (nIf y2_29))), ((bd 10), .inl (cy 0, 16, .inl (nIf y3_37))), ((bd 12), .inl (cy 0, 16, .inl (nIf yx_29)))] := hD
      exact kr _ (y1_29, y2_29, y3_37, yx_29) _ _ _ _ dX8_becomes_40 (vp_nar_int _) ⟨(by unfold qBecomes; rw [if_pos hba, if_pos (bP_iff.mpr (by omega)), ek_, ix_nI (by omega), ← hxa_, ← hf0]), trivial⟩ hP hD hS
    · skip
      refine lv_bipush (v := (-2)) hx hb dX8_becomes_23 (by decide) ?_
      exact kr _ (o1_, o2_, o3_, nx_) _ _ _ _ dX8_becomes_25 (vp_nar_int _) ⟨(by unfold qBecomes; rw [if_pos (bM_iff.mpr (by omega)), if_neg (fun q_ => c20 (by have := bP_iff.mp q_; omega))]), trivial⟩ hP hD hS
  · skip
    refine lv_iconst (v := (-1)) hx hb dX8_becomes_13 (by decide) ?_
    exact kr _ (o1_, o2_, o3_, nx_) _ _ _ _ dX8_becomes_14 (vp_nar_int _) ⟨(by unfold qBecomes; rw [if_neg (fun q_ => c10 (by have := bM_iff.mp q_; omega))]), trivial⟩ hP hD hS

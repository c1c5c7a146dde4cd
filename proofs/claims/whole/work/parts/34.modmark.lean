abbrev w_X8_fault : List Cond := Cond.code yX8_fault cX8_fault 1 (some .int) :: zAll
abbrev r_X8_fault : Room := { frames := 7, cells := 0, slots := 0, locals := 153 }
theorem zd_X8_fault : yX8_fault.cls = RX8 ∧ yX8_fault.cls ≠ "java/lang/invoke/MethodHandle" ∧ yX8_fault.cls ≠ "java/lang/invoke/VarHandle" ∧ (parseMethodDescriptor yX8_fault.desc).map (fun d => d.parameters.length) = some 0 := by decide +kernel
set_option maxHeartbeats 4000000 in
set_option maxRecDepth 100000 in
theorem c_X8_fault (l : Launch) (D : va_G) (cy : Nat → ClassId) (sz : Nat) (bd : Nat → Nat) (um_ : Nat) (ln_ : Nat) (at_ : Nat) (iw_ : Bool) (f_ : Nat → Nat) (m_ : MT) (pd_ : Nat → Nat) (is_ : Nat → Bool) (tl_ : Nat → Nat) (z0_ : RS) (hw : TVok m_.1) (hR : RowR m_.1 f_) (hp : ln_ ≤ 80) (hpd : ∀ q_, q_ < ln_ → 33 ≤ pd_ q_ ∧ pd_ q_ ≤ 126) (hz : z0_.1 = 0 ∧ z0_.2.1 = stayL ∧ z0_.2.2.1 = 0) : zWi l yX8_fault w_X8_fault r_X8_fault D cy [((bd 0), .inr (5, [.int (nI 0), .ref (bd 1), .ref (bd 2), .int (nI um_), .ref (bd 3), .ref (bd 4), .ref (bd 5), .int (nI ln_), .int (nI at_), .int (if iw_ = true then 1 else 0), .ref (bd 6), .ref (bd 7), .ref (bd 8), .ref (bd 9), .ref (bd 10), .ref (bd 11), .ref (bd 12), .ref (bd 13), .ref (bd 14)])), ((bd 1), .inl (cy 0, 130, .inl (nIf f_))), ((bd 5), .inl (cy 0, 80, .inl (nIf pd_))), ((bd 6), .inl (cy 0, 16, .inl (nIf tl_))), ((bd 7), .inl (cy 2, 16, .inl (nBf is_)))] sz [.ref (bd 0)] (fun (r_ : Int32) (u : Nat × Bool × (Nat → Bool) × (Nat → Nat)) => r_ = (fltI (mN m_) pd_ z0_ ln_) ∧ True) (fun u : Nat × Bool × (Nat → Bool) × (Nat → Nat) => ([((bd 0), .inr (5, [.int (nI 0), .ref (bd 1), .ref (bd 2), .int (nI um_), .ref (bd 3), .ref (bd 4), .ref (bd 5), .int (nI ln_), .int (nI u.1), .int (if u.2.1 = true then 1 else 0), .ref (bd 6), .ref (bd 7), .ref (bd 8), .ref (bd 9), .ref (bd 10), .ref (bd 11), .ref (bd 12), .ref (bd 13), .ref (bd 14)])), ((bd 1), .inl (cy 0, 130, .inl (nIf f_))), ((bd 5), .inl (cy 0, 80, .inl (nIf pd_))), ((bd 6), .inl (cy 0, 16, .inl (nIf u.2.2.2))), ((bd 7), .inl (cy 2, 16, .inl (nBf u.2.2.1)))] : va_W)) := by
  refine zOfW (cc := cX8_fault) (maxL := 1) (ty := .int) (by decide) rfl (Nat.le_of_ble_eq_true rfl) ?_
  intro zp ze zs zm za zb zme zc hx hb hml hts hown hP hK zA hD hA Q kr ls hl
  have hS : va_S zA zs.heap zs.heap [] := va_S.rf
  have hown : zs.vm.findClass RX8 = some zm.cls := hown
  have hl : lv_has ls 1 [(0, .ref (bd 0))] := hl
  have hn2 := ok_2 hw
  have hn16 := ok_n hw
  have hC6 := ok_C hw
  have hwP := ok_P hw
  have hf0 : f_ 0 = mN m_ := hR.1
  have hf1 : f_ 1 = mC m_ := hR.2.1
  have hk0_ : (nI 0).toInt = 0 := rfl
  have hk9_ : (nI 999).toInt = 999 := rfl
  have hk8_ : (-999 : Int32).toInt = -999 := rfl
  refine lv_aload_n hx hb dX8_fault_0 rfl (lv_at hl 0 rfl) ?_
  refine lv_iconst (v := nI 0) hx hb dX8_fault_1 (by decide) ?_
  refine va_put (D := D) (ci := 5) (v := .int (nI 0)) (ty := .int) (C := RX8) (T := TX8) (N := 19) hx hb hts (fun w h => List.mem_cons_of_mem _ (zinX8 w h)) tyX8 tyX8_ok nmX8 hown hK.1 hP hD hS 0 rfl rfl 0 (by decide) (hts _ (List.mem_cons_of_mem _ zw_88)) (fun _ h9 => h9) rfl (tyX8_ok 0 (by decide)) rfl rfl (Nat.le_of_ble_eq_true rfl) dX8_fault_2 (fun H locs hP hD hS => ?_)
  have hP : va_P D vwCl [((bd 0), .inr (5, [.int (nI 0), .ref (bd 1), .ref (bd 2), .int (nI um_), .ref (bd 3), .ref (bd 4), .ref (bd 5), .int (nI ln_), .int (nI at_), .int (if iw_ = true then 1 else 0), .ref (bd 6), .ref (bd 7), .ref (bd 8), .ref (bd 9), .ref (bd 10), .ref (bd 11), .ref (bd 12), .ref (bd 13), .ref (bd 14)])), ((bd 1), .inl (cy 0, 130, .inl (nIf f_))), ((bd 5), .inl (cy 0, 80, .inl (nIf pd_))), ((bd 6), .inl (cy 0, 16, .inl (nIf tl_))), ((bd 7), .inl (cy 2, 16, .inl (nBf is_)))] H := hP
  have hD : va_D zA [((bd 0), .inr (5, [.int (nI 0), .ref (bd 1), .ref (bd 2), .int (nI um_), .ref (bd 3), .ref (bd 4), .ref (bd 5), .int (nI ln_), .int (nI at_), .int (if iw_ = true then 1 else 0), .ref (bd 6), .ref (bd 7), .ref (bd 8), .ref (bd 9), .ref (bd 10), .ref (bd 11), .ref (bd 12), .ref (bd 13), .ref (bd 14)])), ((bd 1), .inl (cy 0, 130, .inl (nIf f_))), ((bd 5), .inl (cy 0, 80, .inl (nIf pd_))), ((bd 6), .inl (cy 0, 16, .inl (nIf tl_))), ((bd 7), .inl (cy 2, 16, .inl (nBf is_)))] := hD
  refine lv_aload_n hx hb dX8_fault_5 rfl (lv_at hl 0 rfl) ?_
  refine zcWi (As := []) (rest := []) (wr := []) ⟨hx, hb, hml, hown, hts⟩ (c_X8_faultAt l D cy H.size bd um_ ln_ at_ iw_ f_ pd_ is_ tl_ z0_ (by omega) (by omega) hpd hz) (cwV 0 hts (zG_V zw_196 zw_197 zw_198 zw_5 zw_199) rfl rfl rfl zd_X8_faultAt ⟨Nat.le_of_ble_eq_true rfl, Nat.le_of_ble_eq_true rfl⟩) hK hP hD hS hA [0, 1, 2, 3, 4] [] [0, 1, 2, 3, 4] rfl (by decide) rfl (by decide) (by decide) (w2 := (fun uq_ : Nat × Bool × (Nat → Bool) × (Nat → Nat) => ([((bd 0), .inr (5, [.int (nI 0), .ref (bd 1), .ref (bd 2), .int (nI um_), .ref (bd 3), .ref (bd 4), .ref (bd 5), .int (nI ln_), .int (nI uq_.1), .int (if uq_.2.1 = true then 1 else 0), .ref (bd 6), .ref (bd 7), .ref (bd 8), .ref (bd 9), .ref (bd 10), .ref (bd 11), .ref (bd 12), .ref (bd 13), .ref (bd 14)])), ((bd 1), .inl (cy 0, 130, .inl (nIf f_))), ((bd 5), .inl (cy 0, 80, .inl (nIf pd_))), ((bd 6), .inl (cy 0, 16, .inl (nIf uq_.2.2.2))), ((bd 7), .inl (cy 2, 16, .inl (nBf uq_.2.2.1)))] : va_W))) (fun _ => rfl) (by decide) rfl rfl rfl rfl hl.1 rfl (Nat.le_of_ble_eq_true rfl) dX8_fault_6 ⟨Nat.zero_le _, Nat.zero_le _⟩ (fun r6 u6 H locs h6 hP hD hS => ?_)
  obtain ⟨j8_6, w8_6, i2_6, t2_6⟩ := u6
  obtain ⟨hr6, h6⟩ := h6
  have hr6 : r6 = fltI (f_ 0) pd_ z0_ ln_ := hr6
  have h6 : (fltI (f_ 0) pd_ z0_ ln_ = -6 → ∀ p_, p_ < 16 → t2_6 p_ = nb (rsAt (f_ 0) pd_ z0_ ln_).2.1 p_) := h6
  subst hr6
  have hP : va_P D vwCl [((bd 0), .inr (5, [.int (nI 0), .ref (bd 1), .ref (bd 2), .int (nI um_), .ref (bd 3), .ref (bd 4), .ref (bd 5), .int (nI ln_), .int (nI j8_6), .int (if w8_6 = true then 1 else 0), .ref (bd 6), .ref (bd 7), .ref (bd 8), .ref (bd 9), .ref (bd 10), .ref (bd 11), .ref (bd 12), .ref (bd 13), .ref (bd 14)])), ((bd 1), .inl (cy 0, 130, .inl (nIf f_))), ((bd 5), .inl (cy 0, 80, .inl (nIf pd_))), ((bd 6), .inl (cy 0, 16, .inl (nIf t2_6))), ((bd 7), .inl (cy 2, 16, .inl (nBf i2_6)))] H := hP
  have hD : va_D zA [((bd 0), .inr (5, [.int (nI 0), .ref (bd 1), .ref (bd 2), .int (nI um_), .ref (bd 3), .ref (bd 4), .ref (bd 5), .int (nI ln_), .int (nI j8_6), .int (if w8_6 = true then 1 else 0), .ref (bd 6), .ref (bd 7), .ref (bd 8), .ref (bd 9), .ref (bd 10), .ref (bd 11), .ref (bd 12), .ref (bd 13), .ref (bd 14)])), ((bd 1), .inl (cy 0, 130, .inl (nIf f_))), ((bd 5), .inl (cy 0, 80, .inl (nIf pd_))), ((bd 6), .inl (cy 0, 16, .inl (nIf t2_6))), ((bd 7), .inl (cy 2, 16, .inl (nBf i2_6)))] := hD
  have hn_ : f_ 0 = mN m_ := hf0
  rw [hn_] at h6
  refine zi_top (v := fltI (mN m_) pd_ z0_ ln_) (by rw [hn_]) ?_
  exact kr _ (j8_6, w8_6, i2_6, t2_6) _ _ _ _ dX8_fault_9 (vp_nar_int _) ⟨rfl, trivial⟩ hP hD hS
abbrev w_X8_mark : List Cond := Cond.code yX8_mark cX8_mark 1 (some .int) :: zAll
abbrev r_X8_mark : Room := { frames := 7, cells := 0, slots := 0, locals := 153 }
theorem zd_X8_mark : yX8_mark.cls = RX8 ∧ yX8_mark.cls ≠ "java/lang/invoke/MethodHandle" ∧ yX8_mark.cls ≠ "java/lang/invoke/VarHandle" ∧ (parseMethodDescriptor yX8_mark.desc).map (fun d => d.parameters.length) = some 0 := by decide +kernel
set_option maxHeartbeats 4000000 in
set_option maxRecDepth 100000 in
theorem c_X8_mark (l : Launch) (D : va_G) (cy : Nat → ClassId) (sz : Nat) (bd : Nat → Nat) (m_ : MT) (ln_ : Nat) (at_ : Nat) (iw_ : Bool) (f_ : Nat → Nat) (u_ : Nat → Nat) (pd_ : Nat → Nat) (is_ : Nat → Bool) (tl_ : Nat → Nat) (z0_ : RS) (hw : TVok m_.1) (hX6 : mX m_ < 6) (hU6 : mU m_ ≤ 6) (hM : MR m_ f_ u_) (hp : ln_ ≤ 80) (hpd : ∀ q_, q_ < ln_ → 33 ≤ pd_ q_ ∧ pd_ q_ ≤ 126) (hz : z0_.1 = 0 ∧ z0_.2.1 = stayL ∧ z0_.2.2.1 = 0) : zWi l yX8_mark w_X8_mark r_X8_mark D cy [((bd 0), .inr (5, [.int (nI 0), .ref (bd 1), .ref (bd 2), .int (nI (mU m_)), .ref (bd 3), .ref (bd 4), .ref (bd 5), .int (nI ln_), .int (nI at_), .int (if iw_ = true then 1 else 0), .ref (bd 6), .ref (bd 7), .ref (bd 8), .ref (bd 9), .ref (bd 10), .ref (bd 11), .ref (bd 12), .ref (bd 13), .ref (bd 14)])), ((bd 1), .inl (cy 0, 130, .inl (nIf f_))), ((bd 2), .inl (cy 0, 780, .inl (nIf u_))), ((bd 5), .inl (cy 0, 80, .inl (nIf pd_))), ((bd 6), .inl (cy 0, 16, .inl (nIf tl_))), ((bd 7), .inl (cy 2, 16, .inl (nBf is_)))] sz [.ref (bd 0)] (fun (r_ : Int32) (u : (Nat → Nat) × (Nat → Nat) × Nat × Bool × (Nat → Bool) × (Nat → Nat)) => r_ = ((opMark m_ (fltI (mN m_) pd_ z0_ ln_) (rsAt (mN m_) pd_ z0_ ln_).2.1).1) ∧ MR (opMark m_ (fltI (mN m_) pd_ z0_ ln_) (rsAt (mN m_) pd_ z0_ ln_).2.1).2 u.1 u.2.1) (fun u : (Nat → Nat) × (Nat → Nat) × Nat × Bool × (Nat → Bool) × (Nat → Nat) => ([((bd 0), .inr (5, [.int (nI 0), .ref (bd 1), .ref (bd 2), .int (nI (mU (opMark m_ (fltI (mN m_) pd_ z0_ ln_) (rsAt (mN m_) pd_ z0_ ln_).2.1).2)), .ref (bd 3), .ref (bd 4), .ref (bd 5), .int (nI (opMarkL m_ (fltI (mN m_) pd_ z0_ ln_) ln_)), .int (nI u.2.2.1), .int (if u.2.2.2.1 = true then 1 else 0), .ref (bd 6), .ref (bd 7), .ref (bd 8), .ref (bd 9), .ref (bd 10), .ref (bd 11), .ref (bd 12), .ref (bd 13), .ref (bd 14)])), ((bd 1), .inl (cy 0, 130, .inl (nIf u.1))), ((bd 2), .inl (cy 0, 780, .inl (nIf u.2.1))), ((bd 5), .inl (cy 0, 80, .inl (nIf pd_))), ((bd 6), .inl (cy 0, 16, .inl (nIf u.2.2.2.2.2))), ((bd 7), .inl (cy 2, 16, .inl (nBf u.2.2.2.2.1)))] : va_W)) := by
  refine zOfW (cc := cX8_mark) (maxL := 1) (ty := .int) (by decide) rfl (Nat.le_of_ble_eq_true rfl) ?_
  intro zp ze zs zm za zb zme zc hx hb hml hts hown hP hK zA hD hA Q kr ls hl
  have hS : va_S zA zs.heap zs.heap [] := va_S.rf
  have hown : zs.vm.findClass RX8 = some zm.cls := hown
  have hl : lv_has ls 1 [(0, .ref (bd 0))] := hl
  have hn2 := ok_2 hw
  have hn16 := ok_n hw
  have hC6 := ok_C hw
  have hf0 : f_ 0 = mN m_ := hM.1.1
  have hf1 : f_ 1 = mC m_ := hM.1.2.1
  have hk2_ : (nI 2).toInt = 2 := rfl
  have hk16_ : (nI 16).toInt = 16 := rfl
  have hk0_ : (nI 0).toInt = 0 := rfl
  have hk1_ : (nI 1).toInt = 1 := rfl
  have hk9_ : (nI 999).toInt = 999 := rfl
  have hk8_ : (-999 : Int32).toInt = -999 := rfl
  refine lv_aload_n hx hb dX8_mark_0 rfl (lv_at hl 0 rfl) ?_
  refine lv_iconst (v := nI 0) hx hb dX8_mark_1 (by decide) ?_
  refine va_put (D := D) (ci := 5) (v := .int (nI 0)) (ty := .int) (C := RX8) (T := TX8) (N := 19) hx hb hts (fun w h => List.mem_cons_of_mem _ (zinX8 w h)) tyX8 tyX8_ok nmX8 hown hK.1 hP hD hS 0 rfl rfl 0 (by decide) (hts _ (List.mem_cons_of_mem _ zw_88)) (fun _ h9 => h9) rfl (tyX8_ok 0 (by decide)) rfl rfl (Nat.le_of_ble_eq_true rfl) dX8_mark_2 (fun H locs hP hD hS => ?_)
  have hP : va_P D vwCl [((bd 0), .inr (5, [.int (nI 0), .ref (bd 1), .ref (bd 2), .int (nI (mU m_)), .ref (bd 3), .ref (bd 4), .ref (bd 5), .int (nI ln_), .int (nI at_), .int (if iw_ = true then 1 else 0), .ref (bd 6), .ref (bd 7), .ref (bd 8), .ref (bd 9), .ref (bd 10), .ref (bd 11), .ref (bd 12), .ref (bd 13), .ref (bd 14)])), ((bd 1), .inl (cy 0, 130, .inl (nIf f_))), ((bd 2), .inl (cy 0, 780, .inl (nIf u_))), ((bd 5), .inl (cy 0, 80, .inl (nIf pd_))), ((bd 6), .inl (cy 0, 16, .inl (nIf tl_))), ((bd 7), .inl (cy 2, 16, .inl (nBf is_)))] H := hP
  have hD : va_D zA [((bd 0), .inr (5, [.int (nI 0), .ref (bd 1), .ref (bd 2), .int (nI (mU m_)), .ref (bd 3), .ref (bd 4), .ref (bd 5), .int (nI ln_), .int (nI at_), .int (if iw_ = true then 1 else 0), .ref (bd 6), .ref (bd 7), .ref (bd 8), .ref (bd 9), .ref (bd 10), .ref (bd 11), .ref (bd 12), .ref (bd 13), .ref (bd 14)])), ((bd 1), .inl (cy 0, 130, .inl (nIf f_))), ((bd 2), .inl (cy 0, 780, .inl (nIf u_))), ((bd 5), .inl (cy 0, 80, .inl (nIf pd_))), ((bd 6), .inl (cy 0, 16, .inl (nIf tl_))), ((bd 7), .inl (cy 2, 16, .inl (nBf is_)))] := hD
  refine lv_aload_n hx hb dX8_mark_5 rfl (lv_at hl 0 rfl) ?_
  refine zcWi (As := []) (rest := []) (wr := [((bd 2), .inl (cy 0, 780, .inl (nIf u_)))]) ⟨hx, hb, hml, hown, hts⟩ (c_X8_faultAt l D cy H.size bd (mU m_) ln_ at_ iw_ f_ pd_ is_ tl_ z0_ (by omega) (by omega) hpd hz) (cwV 0 hts (zG_V zw_196 zw_197 zw_198 zw_5 zw_199) rfl rfl rfl zd_X8_faultAt ⟨Nat.le_of_ble_eq_true rfl, Nat.le_of_ble_eq_true rfl⟩) hK hP hD hS hA [0, 1, 3, 4, 5] [2] [1, 2, 0, 3, 4, 5] rfl (by decide) rfl (by decide) (by decide) (w2 := (fun uq_ : Nat × Bool × (Nat → Bool) × (Nat → Nat) => ([((bd 0), .inr (5, [.int (nI 0), .ref (bd 1), .ref (bd 2), .int (nI (mU m_)), .ref (bd 3), .ref (bd 4), .ref (bd 5), .int (nI ln_), .int (nI uq_.1), .int (if uq_.2.1 = true then 1 else 0), .ref (bd 6), .ref (bd 7), .ref (bd 8), .ref (bd 9), .ref (bd 10), .ref (bd 11), .ref (bd 12), .ref (bd 13), .ref (bd 14)])), ((bd 1), .inl (cy 0, 130, .inl (nIf f_))), ((bd 2), .inl (cy 0, 780, .inl (nIf u_))), ((bd 5), .inl (cy 0, 80, .inl (nIf pd_))), ((bd 6), .inl (cy 0, 16, .inl (nIf uq_.2.2.2))), ((bd 7), .inl (cy 2, 16, .inl (nBf uq_.2.2.1)))] : va_W))) (fun _ => rfl) (by decide) rfl rfl rfl rfl hl.1 rfl (Nat.le_of_ble_eq_true rfl) dX8_mark_6 ⟨Nat.zero_le _, Nat.zero_le _⟩ (fun r6 u6 H locs h6 hP hD hS => ?_)
  obtain ⟨j8_6, w8_6, i2_6, t2_6⟩ := u6
  obtain ⟨hr6, h6⟩ := h6
  have hr6 : r6 = fltI (f_ 0) pd_ z0_ ln_ := hr6
  have h6 : (fltI (f_ 0) pd_ z0_ ln_ = -6 → ∀ p_, p_ < 16 → t2_6 p_ = nb (rsAt (f_ 0) pd_ z0_ ln_).2.1 p_) := h6
  subst hr6
  have hP : va_P D vwCl [((bd 0), .inr (5, [.int (nI 0), .ref (bd 1), .ref (bd 2), .int (nI (mU m_)), .ref (bd 3), .ref (bd 4), .ref (bd 5), .int (nI ln_), .int (nI j8_6), .int (if w8_6 = true then 1 else 0), .ref (bd 6), .ref (bd 7), .ref (bd 8), .ref (bd 9), .ref (bd 10), .ref (bd 11), .ref (bd 12), .ref (bd 13), .ref (bd 14)])), ((bd 1), .inl (cy 0, 130, .inl (nIf f_))), ((bd 2), .inl (cy 0, 780, .inl (nIf u_))), ((bd 5), .inl (cy 0, 80, .inl (nIf pd_))), ((bd 6), .inl (cy 0, 16, .inl (nIf t2_6))), ((bd 7), .inl (cy 2, 16, .inl (nBf i2_6)))] H := hP
  have hD : va_D zA [((bd 0), .inr (5, [.int (nI 0), .ref (bd 1), .ref (bd 2), .int (nI (mU m_)), .ref (bd 3), .ref (bd 4), .ref (bd 5), .int (nI ln_), .int (nI j8_6), .int (if w8_6 = true then 1 else 0), .ref (bd 6), .ref (bd 7), .ref (bd 8), .ref (bd 9), .ref (bd 10), .ref (bd 11), .ref (bd 12), .ref (bd 13), .ref (bd 14)])), ((bd 1), .inl (cy 0, 130, .inl (nIf f_))), ((bd 2), .inl (cy 0, 780, .inl (nIf u_))), ((bd 5), .inl (cy 0, 80, .inl (nIf pd_))), ((bd 6), .inl (cy 0, 16, .inl (nIf t2_6))), ((bd 7), .inl (cy 2, 16, .inl (nBf i2_6)))] := hD
  have hn_ : f_ 0 = mN m_ := hf0
  rw [hn_] at h6
  refine zi_top (v := fltI (mN m_) pd_ z0_ ln_) (by rw [hn_]) ?_
  refine lv_bipush (v := (-6)) hx hb dX8_mark_9 (by decide) ?_
  refine zt_eq (a := (fltI (mN m_) pd_ z0_ ln_).toInt) (b := (-6)) (tgt := 17) hx hb dX8_mark_11 (by decide) rfl rfl (fun c11 => ?_) (fun c11 => ?_)
  · skip
    have hr6 : fltI (mN m_) pd_ z0_ ln_ = -6 := Int32.toInt_inj.mp c11
    refine lv_aload_n hx hb dX8_mark_17 rfl (lv_at hl 0 rfl) ?_
    refine va_get (D := D) (ci := 5) (v := .ref (bd 1)) (C := RX8) (T := TX8) (N := 19) hx hb hts (fun w h => List.mem_cons_of_mem _ (zinX8 w h)) hown hK.1 hP 0 rfl rfl 1 (by decide) (hts _ (List.mem_cons_of_mem _ zw_74)) (fun _ h9 => h9) rfl dX8_mark_18 ?_
    refine lv_iconst (v := nI 1) hx hb dX8_mark_21 (by decide) ?_
    refine zi_iald (v := nI (f_ 1)) hx hb hK hP 1 rfl (by omega) (by omega) rfl dX8_mark_22 ?_
    refine lv_bipush (v := nI 6) hx hb dX8_mark_23 (by decide) ?_
    refine zb_ne (a := f_ 1) (b := 6) (tgt := 31) hx hb dX8_mark_25 (by decide) (by omega) (by omega) (fun c25 => ?_) (fun c25 => ?_)
    · skip
      refine lv_aload_n hx hb dX8_mark_31 rfl (lv_at hl 0 rfl) ?_
      refine zcWv (As := []) (rest := []) (wr := [((bd 5), .inl (cy 0, 80, .inl (nIf pd_))), ((bd 6), .inl (cy 0, 16, .inl (nIf t2_6))), ((bd 7), .inl (cy 2, 16, .inl (nBf i2_6)))]) ⟨hx, hb, hml, hown, hts⟩ (c_X8_records l D cy H.size bd (mU m_) ln_ j8_6 w8_6 f_ u_ (by omega)) (cwV 0 hts (zG_V zw_124 zw_125 zw_126 zw_5 zw_127) rfl rfl rfl zd_X8_records ⟨Nat.le_of_ble_eq_true rfl, Nat.le_of_ble_eq_true rfl⟩) hK hP hD hS hA [0, 1, 2] [3, 4, 5] [3, 4, 5, 0, 1, 2] rfl (by decide) rfl (by decide) (by decide) (w2 := (fun uq_ : (Nat → Nat) => ([((bd 0), .inr (5, [.int (nI 0), .ref (bd 1), .ref (bd 2), .int (nI ((mU m_) - (mU m_) / 6 + 1)), .ref (bd 3), .ref (bd 4), .ref (bd 5), .int (nI ln_), .int (nI j8_6), .int (if w8_6 = true then 1 else 0), .ref (bd 6), .ref (bd 7), .ref (bd 8), .ref (bd 9), .ref (bd 10), .ref (bd 11), .ref (bd 12), .ref (bd 13), .ref (bd 14)])), ((bd 1), .inl (cy 0, 130, .inl (nIf f_))), ((bd 2), .inl (cy 0, 780, .inl (nIf uq_))), ((bd 5), .inl (cy 0, 80, .inl (nIf pd_))), ((bd 6), .inl (cy 0, 16, .inl (nIf t2_6))), ((bd 7), .inl (cy 2, 16, .inl (nBf i2_6)))] : va_W))) (fun _ => rfl) (by decide) rfl rfl rfl rfl hl.1 rfl (Nat.le_of_ble_eq_true rfl) dX8_mark_32 ⟨Nat.zero_le _, Nat.zero_le _⟩ (fun  u32 H locs h32 hP hD hS => ?_)
      obtain ⟨w_32, rfl⟩ : ∃ z_, z_ = u32 := ⟨_, rfl⟩
      have h32 : (∀ z_, z_ < 130 → w_32 (130 * ((mU m_) - (mU m_) / 6) + z_) = f_ z_) ∧ ∀ j_ z_, j_ < (mU m_) - (mU m_) / 6 → z_ < 130 → w_32 (130 * j_ + z_) = u_ (130 * (j_ + (mU m_) / 6) + z_) := h32
      have hP : va_P D vwCl [((bd 0), .inr (5, [.int (nI 0), .ref (bd 1), .ref (bd 2), .int (nI ((mU m_) - (mU m_) / 6 + 1)), .ref (bd 3), .ref (bd 4), .ref (bd 5), .int (nI ln_), .int (nI j8_6), .int (if w8_6 = true then 1 else 0), .ref (bd 6), .ref (bd 7), .ref (bd 8), .ref (bd 9), .ref (bd 10), .ref (bd 11), .ref (bd 12), .ref (bd 13), .ref (bd 14)])), ((bd 1), .inl (cy 0, 130, .inl (nIf f_))), ((bd 2), .inl (cy 0, 780, .inl (nIf w_32))), ((bd 5), .inl (cy 0, 80, .inl (nIf pd_))), ((bd 6), .inl (cy 0, 16, .inl (nIf t2_6))), ((bd 7), .inl (cy 2, 16, .inl (nBf i2_6)))] H := hP
      have hD : va_D zA [((bd 0), .inr (5, [.int (nI 0), .ref (bd 1), .ref (bd 2), .int (nI ((mU m_) - (mU m_) / 6 + 1)), .ref (bd 3), .ref (bd 4), .ref (bd 5), .int (nI ln_), .int (nI j8_6), .int (if w8_6 = true then 1 else 0), .ref (bd 6), .ref (bd 7), .ref (bd 8), .ref (bd 9), .ref (bd 10), .ref (bd 11), .ref (bd 12), .ref (bd 13), .ref (bd 14)])), ((bd 1), .inl (cy 0, 130, .inl (nIf f_))), ((bd 2), .inl (cy 0, 780, .inl (nIf w_32))), ((bd 5), .inl (cy 0, 80, .inl (nIf pd_))), ((bd 6), .inl (cy 0, 16, .inl (nIf t2_6))), ((bd 7), .inl (cy 2, 16, .inl (nBf i2_6)))] := hD
      refine lv_aload_n hx hb dX8_mark_35 rfl (lv_at hl 0 rfl) ?_
      refine lv_iconst (v := nI 0) hx hb dX8_mark_36 (by decide) ?_
      refine va_put (D := D) (ci := 5) (v := .int (nI 0)) (ty := .int) (C := RX8) (T := TX8) (N := 19) hx hb hts (fun w h => List.mem_cons_of_mem _ (zinX8 w h)) tyX8 tyX8_ok nmX8 hown hK.1 hP hD hS 0 rfl rfl 7 (by decide) (hts _ (List.mem_cons_of_mem _ zw_195)) (fun _ h9 => h9) rfl (tyX8_ok 7 (by decide)) rfl rfl (Nat.le_of_ble_eq_true rfl) dX8_mark_37 (fun H locs hP hD hS => ?_)
      have hP : va_P D vwCl [((bd 0), .inr (5, [.int (nI 0), .ref (bd 1), .ref (bd 2), .int (nI ((mU m_) - (mU m_) / 6 + 1)), .ref (bd 3), .ref (bd 4), .ref (bd 5), .int (nI 0), .int (nI j8_6), .int (if w8_6 = true then 1 else 0), .ref (bd 6), .ref (bd 7), .ref (bd 8), .ref (bd 9), .ref (bd 10), .ref (bd 11), .ref (bd 12), .ref (bd 13), .ref (bd 14)])), ((bd 1), .inl (cy 0, 130, .inl (nIf f_))), ((bd 2), .inl (cy 0, 780, .inl (nIf w_32))), ((bd 5), .inl (cy 0, 80, .inl (nIf pd_))), ((bd 6), .inl (cy 0, 16, .inl (nIf t2_6))), ((bd 7), .inl (cy 2, 16, .inl (nBf i2_6)))] H := hP
      have hD : va_D zA [((bd 0), .inr (5, [.int (nI 0), .ref (bd 1), .ref (bd 2), .int (nI ((mU m_) - (mU m_) / 6 + 1)), .ref (bd 3), .ref (bd 4), .ref (bd 5), .int (nI 0), .int (nI j8_6), .int (if w8_6 = true then 1 else 0), .ref (bd 6), .ref (bd 7), .ref (bd 8), .ref (bd 9), .ref (bd 10), .ref (bd 11), .ref (bd 12), .ref (bd 13), .ref (bd 14)])), ((bd 1), .inl (cy 0, 130, .inl (nIf f_))), ((bd 2), .inl (cy 0, 780, .inl (nIf w_32))), ((bd 5), .inl (cy 0, 80, .inl (nIf pd_))), ((bd 6), .inl (cy 0, 16, .inl (nIf t2_6))), ((bd 7), .inl (cy 2, 16, .inl (nBf i2_6)))] := hD
      obtain ⟨y_, hy_⟩ : ∃ zz_, zz_ = (rsAt (mN m_) pd_ z0_ ln_).2.1 := ⟨_, rfl⟩
      have hXt : RowX (f_ 0) t2_6 y_ := fun p_ hp_ => by rw [hy_]; exact h6 hr6 p_ (by omega)
      refine lv_aload_n hx hb dX8_mark_40 rfl (lv_at hl 0 rfl) ?_
      refine lv_aload_n hx hb dX8_mark_41 rfl (lv_at hl 0 rfl) ?_
      refine va_get (D := D) (ci := 5) (v := .ref (bd 6)) (C := RX8) (T := TX8) (N := 19) hx hb hts (fun w h => List.mem_cons_of_mem _ (zinX8 w h)) hown hK.1 hP 0 rfl rfl 10 (by decide) (hts _ (List.mem_cons_of_mem _ zw_79)) (fun _ h9 => h9) rfl dX8_mark_42 ?_
      refine zcWi (As := [.ref (bd 6)]) (rest := []) (wr := [((bd 2), .inl (cy 0, 780, .inl (nIf w_32))), ((bd 5), .inl (cy 0, 80, .inl (nIf pd_))), ((bd 7), .inl (cy 2, 16, .inl (nBf i2_6)))]) ⟨hx, hb, hml, hown, hts⟩ (c_X8_adds l D cy H.size bd ((mU m_) - (mU m_) / 6 + 1) 0 j8_6 w8_6 f_ (bd 6) t2_6 (by omega) (by omega)) (cwV 1 hts (zG_V zw_226 zw_227 zw_228 zw_5 zw_229) rfl rfl rfl zd_X8_adds ⟨Nat.le_of_ble_eq_true rfl, Nat.le_of_ble_eq_true rfl⟩) hK hP hD hS hA [0, 1, 4] [2, 3, 5] [3, 4, 0, 1, 5, 2] rfl (by decide) rfl (by decide) (by decide) (w2 := (fun uq_ : (Nat → Nat) => ([((bd 0), .inr (5, [.int (nI 0), .ref (bd 1), .ref (bd 2), .int (nI ((mU m_) - (mU m_) / 6 + 1)), .ref (bd 3), .ref (bd 4), .ref (bd 5), .int (nI 0), .int (nI j8_6), .int (if w8_6 = true then 1 else 0), .ref (bd 6), .ref (bd 7), .ref (bd 8), .ref (bd 9), .ref (bd 10), .ref (bd 11), .ref (bd 12), .ref (bd 13), .ref (bd 14)])), ((bd 1), .inl (cy 0, 130, .inl (nIf uq_))), ((bd 2), .inl (cy 0, 780, .inl (nIf w_32))), ((bd 5), .inl (cy 0, 80, .inl (nIf pd_))), ((bd 6), .inl (cy 0, 16, .inl (nIf t2_6))), ((bd 7), .inl (cy 2, 16, .inl (nBf i2_6)))] : va_W))) (fun _ => rfl) (by decide) rfl rfl rfl rfl hl.1 rfl (Nat.le_of_ble_eq_true rfl) dX8_mark_45 ⟨Nat.zero_le _, Nat.zero_le _⟩ (fun r45 u45 H locs h45 hP hD hS => ?_)
      obtain ⟨w_45, rfl⟩ : ∃ z_, z_ = u45 := ⟨_, rfl⟩
      obtain ⟨hr45, h45⟩ := h45
      have hr45 : r45 = nI (f_ 1) := hr45
      have h45 : w_45 1 = f_ 1 + 1 ∧ (∀ z_, z_ < f_ 0 → w_45 (34 + 16 * f_ 1 + z_) = t2_6 z_) ∧ ∀ z_, z_ ≠ 1 → z_ < 34 + 16 * f_ 1 → w_45 z_ = f_ z_ := h45
      subst hr45
      have hP : va_P D vwCl [((bd 0), .inr (5, [.int (nI 0), .ref (bd 1), .ref (bd 2), .int (nI ((mU m_) - (mU m_) / 6 + 1)), .ref (bd 3), .ref (bd 4), .ref (bd 5), .int (nI 0), .int (nI j8_6), .int (if w8_6 = true then 1 else 0), .ref (bd 6), .ref (bd 7), .ref (bd 8), .ref (bd 9), .ref (bd 10), .ref (bd 11), .ref (bd 12), .ref (bd 13), .ref (bd 14)])), ((bd 1), .inl (cy 0, 130, .inl (nIf w_45))), ((bd 2), .inl (cy 0, 780, .inl (nIf w_32))), ((bd 5), .inl (cy 0, 80, .inl (nIf pd_))), ((bd 6), .inl (cy 0, 16, .inl (nIf t2_6))), ((bd 7), .inl (cy 2, 16, .inl (nBf i2_6)))] H := hP
      have hD : va_D zA [((bd 0), .inr (5, [.int (nI 0), .ref (bd 1), .ref (bd 2), .int (nI ((mU m_) - (mU m_) / 6 + 1)), .ref (bd 3), .ref (bd 4), .ref (bd 5), .int (nI 0), .int (nI j8_6), .int (if w8_6 = true then 1 else 0), .ref (bd 6), .ref (bd 7), .ref (bd 8), .ref (bd 9), .ref (bd 10), .ref (bd 11), .ref (bd 12), .ref (bd 13), .ref (bd 14)])), ((bd 1), .inl (cy 0, 130, .inl (nIf w_45))), ((bd 2), .inl (cy 0, 780, .inl (nIf w_32))), ((bd 5), .inl (cy 0, 80, .inl (nIf pd_))), ((bd 6), .inl (cy 0, 16, .inl (nIf t2_6))), ((bd 7), .inl (cy 2, 16, .inl (nBf i2_6)))] := hD
      have eu_ : mU m_ - mU m_ / 6 + 1 = upD (mU m_) := (upD_E hU6).symm
      rw [eu_] at hP hD
      have e_ : opMark m_ (fltI (mN m_) pd_ z0_ ln_) (rsAt (mN m_) pd_ z0_ ln_).2.1 = (nI (mC m_), putM m_ (mN m_, mP m_, mT m_, mC m_ + 1, vp_updL (mM m_) (mC m_) y_)) := by unfold opMark comeM; rw [if_pos hr6, if_pos (by omega), hy_]
      have el_ : opMarkL m_ (fltI (mN m_) pd_ z0_ ln_) ln_ = 0 := if_pos ⟨hr6, by omega⟩
      rw [e_, el_] at kr
      exact kr _ (w_45, w_32, j8_6, w8_6, i2_6, t2_6) _ _ _ _ dX8_mark_48 (vp_nar_int _) (adds_m hw hM (rec_u hw hX6 hU6 hM h32) hXt h45) hP hD hS
    · skip
      have e_ : opMark m_ (fltI (mN m_) pd_ z0_ ln_) (rsAt (mN m_) pd_ z0_ ln_).2.1 = (-4, m_) := by unfold opMark comeM; rw [if_pos hr6, if_neg (by omega)]
      have el_ : opMarkL m_ (fltI (mN m_) pd_ z0_ ln_) ln_ = ln_ := if_neg (fun q_ => by have := q_.2; omega)
      rw [e_, el_] at kr
      refine lv_bipush (v := (-4)) hx hb dX8_mark_28 (by decide) ?_
      exact kr _ (f_, u_, j8_6, w8_6, i2_6, t2_6) _ _ _ _ dX8_mark_30 (vp_nar_int _) ⟨rfl, hM⟩ hP hD hS
  · skip
    have hne_ : ¬ fltI (mN m_) pd_ z0_ ln_ = -6 := fun q_ => c11 (by rw [q_]; rfl)
    have e_ : opMark m_ (fltI (mN m_) pd_ z0_ ln_) (rsAt (mN m_) pd_ z0_ ln_).2.1 = (-3, m_) := if_neg hne_
    have el_ : opMarkL m_ (fltI (mN m_) pd_ z0_ ln_) ln_ = ln_ := if_neg (fun q_ => hne_ q_.1)
    rw [e_, el_] at kr
    refine lv_bipush (v := (-3)) hx hb dX8_mark_14 (by decide) ?_
    exact kr _ (f_, u_, j8_6, w8_6, i2_6, t2_6) _ _ _ _ dX8_mark_16 (vp_nar_int _) ⟨rfl, hM⟩ hP hD hS

abbrev w_X7_cutsThatStay : List Cond := Cond.code yX7_cutsThatStay cX7_cutsThatStay 5 (some .int) :: zAll
abbrev r_X7_cutsThatStay : Room := { frames := 2, cells := 0, slots := 0, locals := 51 }
theorem zd_X7_cutsThatStay : yX7_cutsThatStay.cls = RX7 ∧ yX7_cutsThatStay.cls ≠ "java/lang/invoke/MethodHandle" ∧ yX7_cutsThatStay.cls ≠ "java/lang/invoke/VarHandle" ∧ (parseMethodDescriptor yX7_cutsThatStay.desc).map (fun d => d.parameters.length) = some 1 := by decide +kernel
set_option maxHeartbeats 4000000 in
set_option maxRecDepth 100000 in
theorem c_X7_cutsThatStay (l : Launch) (D : va_G) (cy : Nat → ClassId) (ad : Nat → Nat) (m_ : MT) (pl_ : Nat) (x_ : Int64) (hn : mN m_ ≤ 16) (hwx : WF (mN m_) x_) : zMi l yX7_cutsThatStay w_X7_cutsThatStay r_X7_cutsThatStay D cy [((ad 0), .inr (4, [.ref (ad 1), .ref (ad 3), .ref (ad 18), .ref (ad 25), .ref (ad 27), .ref (ad 28), .int (nI pl_), .int (nI (mU m_)), .int (nI (mX m_))])), ((ad 1), .inr (3, [.int (nI (mN m_)), .long (mP m_), .long (mT m_), .int (nI (mC m_)), .ref (ad 2)]))] [.ref (ad 0), .long x_] (fun r_ => r_ = (nI (cutM x_ (mN m_) (mN m_)))) := by
  refine zOfR (cc := cX7_cutsThatStay) (maxL := 5) (ty := .int) (by decide) rfl (Nat.le_of_ble_eq_true rfl) ?_
  intro zp ze zs zm za zb zme zc hx hb hml hts hown hP hK Q kr ls hl
  have hown : zs.vm.findClass RX7 = some zm.cls := hown
  have hl : lv_has ls 5 [(0, .ref (ad 0)), (1, .long x_)] := hl
  refine lv_iconst (v := nI 0) hx hb dX7_cutsThatStay_0 (by decide) ?_
  refine zi_top (v := nI (cutM x_ (mN m_) 0)) rfl ?_
  refine lv_istore_n (lv' := [(3, .int (nI (cutM x_ (mN m_) 0))), (0, .ref (ad 0)), (1, .long x_)]) hx hb dX7_cutsThatStay_1 rfl hl (by decide) rfl (fun ls hl => ?_)
  refine lv_iconst (v := nI 0) hx hb dX7_cutsThatStay_2 (by decide) ?_
  refine lv_istore (lv' := [(4, .int (nI 0)), (3, .int (nI (cutM x_ (mN m_) 0))), (0, .ref (ad 0)), (1, .long x_)]) hx hb dX7_cutsThatStay_3 hl (by decide) rfl (fun ls hl => ?_)
  have L5 : ∀ (kf_ : Nat) (i_ : Nat) (hi : i_ ≤ mN m_), mN m_ - i_ < kf_ → ∀ ls : Array Slot, lv_has ls 5 [(0, .ref (ad 0)), (1, .long x_), (3, .int (nI (cutM x_ (mN m_) i_))), (4, .int (nI i_))] → W zp l ze r_X7_cutsThatStay zs zm za zb zme zc zs.heap [] 0 0 Q (F0 zm 5 ls []) := by
    intro kf_
    induction kf_ with
    | zero => intro i_ hi hk_; exact absurd hk_ (Nat.not_lt_zero _)
    | succ kf_ ih5 =>
      intro i_ hi hk_ ls hl
      refine lv_iload hx hb dX7_cutsThatStay_5 (lv_at hl 3 rfl) ?_
      refine lv_aload_n hx hb dX7_cutsThatStay_7 rfl (lv_at hl 0 rfl) ?_
      refine va_get (D := D) (ci := 4) (v := .ref (ad 1)) (C := RX7) (T := TX7) (N := 9) hx hb hts (fun w h => List.mem_cons_of_mem _ (zinX7 w h)) hown hK.1 hP 0 rfl rfl 0 (by decide) (hts _ (List.mem_cons_of_mem _ zw_12)) (fun _ h9 => h9) rfl dX7_cutsThatStay_8 ?_
      refine va_getN (D := D) (ci := 3) (v := .int (nI (mN m_))) (C := RX6) (T := TX6) (N := 5) hx hb hts (fun w h => List.mem_cons_of_mem _ (zinX6 w h)) hown hK.1 hP 1 rfl rfl 0 (by decide) (zK_nest hK 0 rfl) (fun _ h9 => h9) rfl dX7_cutsThatStay_11 ?_
      refine zb_ge (a := i_) (b := mN m_) (tgt := 48) hx hb dX7_cutsThatStay_14 (by decide) (by omega) (by omega) (fun c14 => ?_) (fun c14 => ?_)
      · skip
        refine lv_iload_n hx hb dX7_cutsThatStay_48 rfl (lv_at hl 2 rfl) ?_
        exact kr _ _ _ dX7_cutsThatStay_49 (vp_nar_int _) (by rw [show i_ = mN m_ by omega])
      · skip
        refine lv_lload_n hx hb dX7_cutsThatStay_17 rfl (lv_at hl 1 rfl) ?_
        refine lv_iload hx hb dX7_cutsThatStay_18 (lv_at hl 3 rfl) ?_
        refine lv_aload_n hx hb dX7_cutsThatStay_20 rfl (lv_at hl 0 rfl) ?_
        refine va_get (D := D) (ci := 4) (v := .ref (ad 1)) (C := RX7) (T := TX7) (N := 9) hx hb hts (fun w h => List.mem_cons_of_mem _ (zinX7 w h)) hown hK.1 hP 0 rfl rfl 0 (by decide) (hts _ (List.mem_cons_of_mem _ zw_12)) (fun _ h9 => h9) rfl dX7_cutsThatStay_21 ?_
        refine va_getN (D := D) (ci := 3) (v := .int (nI (mN m_))) (C := RX6) (T := TX6) (N := 5) hx hb hts (fun w h => List.mem_cons_of_mem _ (zinX6 w h)) hown hK.1 hP 1 rfl rfl 0 (by decide) (zK_nest hK 0 rfl) (fun _ h9 => h9) rfl dX7_cutsThatStay_24 ?_
        refine zcSl (As := [.long x_, .int (nI i_), .int (nI (mN m_))]) (rest := []) ⟨hx, hb, hml, hown, hts⟩ (c_X5_becomesBy l D cy x_ i_ (mN m_) hwx (by omega) (by omega)) (va_cwS 3 hts (zG_S zw_331 zw_332 zw_270 zw_333) rfl rfl rfl zd_X5_becomesBy ⟨Nat.le_of_ble_eq_true rfl, Nat.le_of_ble_eq_true rfl⟩) hK hP [] rfl rfl hl.1 rfl (Nat.le_of_ble_eq_true rfl) dX7_cutsThatStay_27 ⟨Nat.zero_le _, Nat.zero_le _⟩ (fun r27 h27 => ?_)
        subst h27
        refine lv_lload_n hx hb dX7_cutsThatStay_30 rfl (lv_at hl 1 rfl) ?_
        refine W.lcmp hx hb dX7_cutsThatStay_31 ?_
        refine zc_ne (tgt := 42) hx hb dX7_cutsThatStay_32 (by decide) (fun c32 => ?_) (fun c32 => ?_)
        · skip
          have e_ : nI (cutM x_ (mN m_) i_) = nI (cutM x_ (mN m_) (i_ + 1)) := cutM_no c32
          rw [e_] at hl
          refine lv_iinc (v := nI (i_ + 1)) (lv' := [(4, .int (nI (i_ + 1))), (0, .ref (ad 0)), (1, .long x_), (3, .int (nI (cutM x_ (mN m_) (i_ + 1))))]) hx hb dX7_cutsThatStay_42 hl (k := 3) rfl (nI_1 _) (by decide) rfl (fun ls hl => ?_)
          refine lv_goto (tgt := 5) hx hb dX7_cutsThatStay_45 (by decide) ?_
          exact ih5 (i_ + 1) (by omega) (by omega) _ (lv_sub hl [1, 2, 3, 0] rfl)
        · skip
          refine lv_iload_n hx hb dX7_cutsThatStay_35 rfl (lv_at hl 2 rfl) ?_
          refine lv_iconst (v := nI 1) hx hb dX7_cutsThatStay_36 (by decide) ?_
          refine lv_iload hx hb dX7_cutsThatStay_37 (lv_at hl 3 rfl) ?_
          refine zi_shl (v := nI (2 ^ i_)) hx hb dX7_cutsThatStay_39 (zz_shl1 (by omega)) ?_
          refine zi_or (v := nI (cutM x_ (mN m_) (i_ + 1))) hx hb dX7_cutsThatStay_40 (cutM_yes c32) ?_
          refine lv_istore_n (lv' := [(3, .int (nI (cutM x_ (mN m_) (i_ + 1)))), (0, .ref (ad 0)), (1, .long x_), (4, .int (nI i_))]) hx hb dX7_cutsThatStay_41 rfl hl (by decide) rfl (fun ls hl => ?_)
          refine lv_iinc (v := nI (i_ + 1)) (lv' := [(4, .int (nI (i_ + 1))), (3, .int (nI (cutM x_ (mN m_) (i_ + 1)))), (0, .ref (ad 0)), (1, .long x_)]) hx hb dX7_cutsThatStay_42 hl (k := 3) rfl (nI_1 _) (by decide) rfl (fun ls hl => ?_)
          refine lv_goto (tgt := 5) hx hb dX7_cutsThatStay_45 (by decide) ?_
          exact ih5 (i_ + 1) (by omega) (by omega) _ (lv_sub hl [2, 3, 1, 0] rfl)
  exact L5 (mN m_ - 0 + 1) 0 (by omega) (Nat.lt_succ_self _) _ (lv_sub hl [2, 3, 1, 0] rfl)
abbrev w_X7_at : List Cond := Cond.code yX7_at cX7_at 2 (some .int) :: zAll
abbrev r_X7_at : Room := { frames := 2, cells := 0, slots := 0, locals := 45 }
theorem zd_X7_at : yX7_at.cls = RX7 ∧ yX7_at.cls ≠ "java/lang/invoke/MethodHandle" ∧ yX7_at.cls ≠ "java/lang/invoke/VarHandle" ∧ (parseMethodDescriptor yX7_at.desc).map (fun d => d.parameters.length) = some 1 := by decide +kernel
set_option maxHeartbeats 4000000 in
set_option maxRecDepth 100000 in
theorem c_X7_at (l : Launch) (D : va_G) (cy : Nat → ClassId) (ad : Nat → Nat) (m_ : MT) (pl_ : Nat) (a_ : Int32) (hw : TVok m_.1) : zMi l yX7_at w_X7_at r_X7_at D cy [((ad 0), .inr (4, [.ref (ad 1), .ref (ad 3), .ref (ad 18), .ref (ad 25), .ref (ad 27), .ref (ad 28), .int (nI pl_), .int (nI (mU m_)), .int (nI (mX m_))])), ((ad 1), .inr (3, [.int (nI (mN m_)), .long (mP m_), .long (mT m_), .int (nI (mC m_)), .ref (ad 2)]))] [.ref (ad 0), .int a_] (fun r_ => r_ = (qAt m_ a_)) := by
  refine zOfR (cc := cX7_at) (maxL := 2) (ty := .int) (by decide) rfl (Nat.le_of_ble_eq_true rfl) ?_
  intro zp ze zs zm za zb zme zc hx hb hml hts hown hP hK Q kr ls hl
  have hown : zs.vm.findClass RX7 = some zm.cls := hown
  have hl : lv_has ls 2 [(0, .ref (ad 0)), (1, .int a_)] := hl
  have hn2 := ok_2 hw
  have hn := ok_n hw
  have hC6 := ok_C hw
  have hwP := ok_P hw
  have hwT := ok_T hw
  refine lv_aload_n hx hb dX7_at_0 rfl (lv_at hl 0 rfl) ?_
  refine va_get (D := D) (ci := 4) (v := .ref (ad 1)) (C := RX7) (T := TX7) (N := 9) hx hb hts (fun w h => List.mem_cons_of_mem _ (zinX7 w h)) hown hK.1 hP 0 rfl rfl 0 (by decide) (hts _ (List.mem_cons_of_mem _ zw_12)) (fun _ h9 => h9) rfl dX7_at_1 ?_
  refine lv_iload_n hx hb dX7_at_4 rfl (lv_at hl 1 rfl) ?_
  refine zcRi (As := [.int a_]) (rest := []) ⟨hx, hb, hml, hown, hts⟩ (c_X6_hasPlace l D cy (ad 1) (ad 2) (mN m_) (mP m_) (mT m_) (mC m_) a_ (by omega)) (cwV 1 hts (zG_V zw_139 zw_140 zw_141 zw_11 zw_142) rfl rfl rfl zd_X6_hasPlace ⟨Nat.le_of_ble_eq_true rfl, Nat.le_of_ble_eq_true rfl⟩) hK hP [1] rfl rfl rfl rfl rfl hl.1 rfl (Nat.le_of_ble_eq_true rfl) dX7_at_5 ⟨Nat.zero_le _, Nat.zero_le _⟩ (fun r5 h5 => ?_)
  subst h5
  refine zq_eq (tgt := 25) hx hb dX7_at_8 (by decide) (fun c8 => ?_) (fun c8 => ?_)
  · skip
    refine lv_iconst (v := (-1)) hx hb dX7_at_25 (by decide) ?_
    exact kr _ _ _ dX7_at_26 (vp_nar_int _) (by unfold qAt; rw [if_neg (fun q_ => c8 (bP_iff.mp q_))])
  · skip
    obtain ⟨j_, hj_, ej_⟩ := zz_rng (n := mN m_) (x := a_) c8
    rw [ej_] at hl
    refine lv_aload_n hx hb dX7_at_11 rfl (lv_at hl 0 rfl) ?_
    refine va_get (D := D) (ci := 4) (v := .ref (ad 1)) (C := RX7) (T := TX7) (N := 9) hx hb hts (fun w h => List.mem_cons_of_mem _ (zinX7 w h)) hown hK.1 hP 0 rfl rfl 0 (by decide) (hts _ (List.mem_cons_of_mem _ zw_12)) (fun _ h9 => h9) rfl dX7_at_12 ?_
    refine va_getN (D := D) (ci := 3) (v := .long (mP m_)) (C := RX6) (T := TX6) (N := 5) hx hb hts (fun w h => List.mem_cons_of_mem _ (zinX6 w h)) hown hK.1 hP 1 rfl rfl 1 (by decide) (zK_nest hK 1 rfl) (fun _ h9 => h9) rfl dX7_at_15 ?_
    refine lv_iload_n hx hb dX7_at_18 rfl (lv_at hl 1 rfl) ?_
    refine zcSi (As := [.long (mP m_), .int (nI j_)]) (rest := []) ⟨hx, hb, hml, hown, hts⟩ (c_X3_from l D cy (mP m_) j_ (by omega)) (va_cwS 2 hts (zG_S zw_143 zw_144 zw_119 zw_145) rfl rfl rfl zd_X3_from ⟨Nat.le_of_ble_eq_true rfl, Nat.le_of_ble_eq_true rfl⟩) hK hP [] rfl rfl hl.1 rfl (Nat.le_of_ble_eq_true rfl) dX7_at_19 ⟨Nat.zero_le _, Nat.zero_le _⟩ (fun r19 h19 => ?_)
    subst h19
    refine lv_goto (tgt := 26) hx hb dX7_at_22 (by decide) ?_
    exact kr _ _ _ dX7_at_26 (vp_nar_int _) (by unfold qAt; rw [if_pos (bP_iff.mpr c8), ej_, ix_nI (by omega)])
abbrev w_X7_where : List Cond := Cond.code yX7_where cX7_where 2 (some .int) :: zAll
abbrev r_X7_where : Room := { frames := 1, cells := 0, slots := 0, locals := 22 }
theorem zd_X7_where : yX7_where.cls = RX7 ∧ yX7_where.cls ≠ "java/lang/invoke/MethodHandle" ∧ yX7_where.cls ≠ "java/lang/invoke/VarHandle" ∧ (parseMethodDescriptor yX7_where.desc).map (fun d => d.parameters.length) = some 1 := by decide +kernel
set_option maxHeartbeats 4000000 in
set_option maxRecDepth 100000 in
theorem c_X7_where (l : Launch) (D : va_G) (cy : Nat → ClassId) (ad : Nat → Nat) (m_ : MT) (pl_ : Nat) (a_ : Int32) (hw : TVok m_.1) : zMi l yX7_where w_X7_where r_X7_where D cy [((ad 0), .inr (4, [.ref (ad 1), .ref (ad 3), .ref (ad 18), .ref (ad 25), .ref (ad 27), .ref (ad 28), .int (nI pl_), .int (nI (mU m_)), .int (nI (mX m_))])), ((ad 1), .inr (3, [.int (nI (mN m_)), .long (mP m_), .long (mT m_), .int (nI (mC m_)), .ref (ad 2)]))] [.ref (ad 0), .int a_] (fun r_ => r_ = (qWhere m_ a_)) := by
  refine zOfR (cc := cX7_where) (maxL := 2) (ty := .int) (by decide) rfl (Nat.le_of_ble_eq_true rfl) ?_
  intro zp ze zs zm za zb zme zc hx hb hml hts hown hP hK Q kr ls hl
  have hown : zs.vm.findClass RX7 = some zm.cls := hown
  have hl : lv_has ls 2 [(0, .ref (ad 0)), (1, .int a_)] := hl
  have hn2 := ok_2 hw
  have hn := ok_n hw
  have hC6 := ok_C hw
  have hwP := ok_P hw
  have hwT := ok_T hw
  refine lv_aload_n hx hb dX7_where_0 rfl (lv_at hl 0 rfl) ?_
  refine va_get (D := D) (ci := 4) (v := .ref (ad 1)) (C := RX7) (T := TX7) (N := 9) hx hb hts (fun w h => List.mem_cons_of_mem _ (zinX7 w h)) hown hK.1 hP 0 rfl rfl 0 (by decide) (hts _ (List.mem_cons_of_mem _ zw_12)) (fun _ h9 => h9) rfl dX7_where_1 ?_
  refine lv_iload_n hx hb dX7_where_4 rfl (lv_at hl 1 rfl) ?_
  refine zcRi (As := [.int a_]) (rest := []) ⟨hx, hb, hml, hown, hts⟩ (c_X6_hasPlace l D cy (ad 1) (ad 2) (mN m_) (mP m_) (mT m_) (mC m_) a_ (by omega)) (cwV 1 hts (zG_V zw_139 zw_140 zw_141 zw_11 zw_142) rfl rfl rfl zd_X6_hasPlace ⟨Nat.le_of_ble_eq_true rfl, Nat.le_of_ble_eq_true rfl⟩) hK hP [1] rfl rfl rfl rfl rfl hl.1 rfl (Nat.le_of_ble_eq_true rfl) dX7_where_5 ⟨Nat.zero_le _, Nat.zero_le _⟩ (fun r5 h5 => ?_)
  subst h5
  refine zq_eq (tgt := 25) hx hb dX7_where_8 (by decide) (fun c8 => ?_) (fun c8 => ?_)
  · skip
    refine lv_iconst (v := (-1)) hx hb dX7_where_25 (by decide) ?_
    exact kr _ _ _ dX7_where_26 (vp_nar_int _) (by unfold qWhere; rw [if_neg (fun q_ => c8 (bP_iff.mp q_))])
  · skip
    obtain ⟨j_, hj_, ej_⟩ := zz_rng (n := mN m_) (x := a_) c8
    rw [ej_] at hl
    refine lv_aload_n hx hb dX7_where_11 rfl (lv_at hl 0 rfl) ?_
    refine va_get (D := D) (ci := 4) (v := .ref (ad 1)) (C := RX7) (T := TX7) (N := 9) hx hb hts (fun w h => List.mem_cons_of_mem _ (zinX7 w h)) hown hK.1 hP 0 rfl rfl 0 (by decide) (hts _ (List.mem_cons_of_mem _ zw_12)) (fun _ h9 => h9) rfl dX7_where_12 ?_
    refine va_getN (D := D) (ci := 3) (v := .long (mP m_)) (C := RX6) (T := TX6) (N := 5) hx hb hts (fun w h => List.mem_cons_of_mem _ (zinX6 w h)) hown hK.1 hP 1 rfl rfl 1 (by decide) (zK_nest hK 1 rfl) (fun _ h9 => h9) rfl dX7_where_15 ?_
    refine lv_iload_n hx hb dX7_where_18 rfl (lv_at hl 1 rfl) ?_
    refine zcSi (As := [.long (mP m_), .int (nI j_)]) (rest := []) ⟨hx, hb, hml, hown, hts⟩ (c_X3_to l D cy (mP m_) j_ (by omega)) (va_cwS 2 hts (zG_S zw_346 zw_122 zw_119 zw_123) rfl rfl rfl zd_X3_to ⟨Nat.le_of_ble_eq_true rfl, Nat.le_of_ble_eq_true rfl⟩) hK hP [] rfl rfl hl.1 rfl (Nat.le_of_ble_eq_true rfl) dX7_where_19 ⟨Nat.zero_le _, Nat.zero_le _⟩ (fun r19 h19 => ?_)
    subst h19
    refine lv_goto (tgt := 26) hx hb dX7_where_22 (by decide) ?_
    exact kr _ _ _ dX7_where_26 (vp_nar_int _) (by unfold qWhere; rw [if_pos (bP_iff.mpr c8), ej_, ix_nI (by omega)])
abbrev w_X7_image : List Cond := Cond.code yX7_image cX7_image 4 (some .int) :: zAll
abbrev r_X7_image : Room := { frames := 3, cells := 0, slots := 0, locals := 73 }
theorem zd_X7_image : yX7_image.cls = RX7 ∧ yX7_image.cls ≠ "java/lang/invoke/MethodHandle" ∧ yX7_image.cls ≠ "java/lang/invoke/VarHandle" ∧ (parseMethodDescriptor yX7_image.desc).map (fun d => d.parameters.length) = some 3 := by decide +kernel
set_option maxHeartbeats 4000000 in
set_option maxRecDepth 100000 in
theorem c_X7_image (l : Launch) (D : va_G) (cy : Nat → ClassId) (ad : Nat → Nat) (m_ : MT) (pl_ : Nat) (a_ : Int32) (z_ : Int32) (p_ : Int32) (hw : TVok m_.1) : zMi l yX7_image w_X7_image r_X7_image D cy [((ad 0), .inr (4, [.ref (ad 1), .ref (ad 3), .ref (ad 18), .ref (ad 25), .ref (ad 27), .ref (ad 28), .int (nI pl_), .int (nI (mU m_)), .int (nI (mX m_))])), ((ad 1), .inr (3, [.int (nI (mN m_)), .long (mP m_), .long (mT m_), .int (nI (mC m_)), .ref (ad 2)])), ((ad 2), .inl (cy 1, 6, .inr (.inl (mM m_))))] [.ref (ad 0), .int a_, .int z_, .int p_] (fun r_ => r_ = (qImage m_ a_ z_ p_)) := by
  refine zOfR (cc := cX7_image) (maxL := 4) (ty := .int) (by decide) rfl (Nat.le_of_ble_eq_true rfl) ?_
  intro zp ze zs zm za zb zme zc hx hb hml hts hown hP hK Q kr ls hl
  have hown : zs.vm.findClass RX7 = some zm.cls := hown
  have hl : lv_has ls 4 [(0, .ref (ad 0)), (1, .int a_), (2, .int z_), (3, .int p_)] := hl
  have hn2 := ok_2 hw
  have hn := ok_n hw
  have hC6 := ok_C hw
  have hwP := ok_P hw
  have hwT := ok_T hw
  refine lv_aload_n hx hb dX7_image_0 rfl (lv_at hl 0 rfl) ?_
  refine lv_iload_n hx hb dX7_image_1 rfl (lv_at hl 1 rfl) ?_
  refine zcRi (As := [.int a_]) (rest := []) ⟨hx, hb, hml, hown, hts⟩ (c_X7_isMarkOrTrick l D cy ad m_ pl_ a_ (by omega)) (cwV 1 hts (zG_V zw_150 zw_151 zw_152 zw_2 zw_153) rfl rfl rfl zd_X7_isMarkOrTrick ⟨Nat.le_of_ble_eq_true rfl, Nat.le_of_ble_eq_true rfl⟩) hK hP [0, 1] rfl rfl rfl rfl rfl hl.1 rfl (Nat.le_of_ble_eq_true rfl) dX7_image_2 ⟨Nat.zero_le _, Nat.zero_le _⟩ (fun r2 h2 => ?_)
  subst h2
  refine zq_eq (tgt := 19) hx hb dX7_image_5 (by decide) (fun c5 => ?_) (fun c5 => ?_)
  · skip
    refine lv_iconst (v := (-1)) hx hb dX7_image_19 (by decide) ?_
    exact kr _ _ _ dX7_image_20 (vp_nar_int _) (by unfold qImage; rw [if_neg (fun q_ => c5 q_.1)])
  · skip
    refine lv_aload_n hx hb dX7_image_8 rfl (lv_at hl 0 rfl) ?_
    refine va_get (D := D) (ci := 4) (v := .ref (ad 1)) (C := RX7) (T := TX7) (N := 9) hx hb hts (fun w h => List.mem_cons_of_mem _ (zinX7 w h)) hown hK.1 hP 0 rfl rfl 0 (by decide) (hts _ (List.mem_cons_of_mem _ zw_12)) (fun _ h9 => h9) rfl dX7_image_9 ?_
    refine lv_iload_n hx hb dX7_image_12 rfl (lv_at hl 3 rfl) ?_
    refine zcRi (As := [.int p_]) (rest := []) ⟨hx, hb, hml, hown, hts⟩ (c_X6_hasPlace l D cy (ad 1) (ad 2) (mN m_) (mP m_) (mT m_) (mC m_) p_ (by omega)) (cwV 1 hts (zG_V zw_139 zw_140 zw_141 zw_11 zw_142) rfl rfl rfl zd_X6_hasPlace ⟨Nat.le_of_ble_eq_true rfl, Nat.le_of_ble_eq_true rfl⟩) hK hP [1] rfl rfl rfl rfl rfl hl.1 rfl (Nat.le_of_ble_eq_true rfl) dX7_image_13 ⟨Nat.zero_le _, Nat.zero_le _⟩ (fun r13 h13 => ?_)
    subst h13
    refine zq_ne (tgt := 21) hx hb dX7_image_16 (by decide) (fun c16 => ?_) (fun c16 => ?_)
    · skip
      refine lv_iload_n hx hb dX7_image_21 rfl (lv_at hl 2 rfl) ?_
      refine zcSi (As := [.int z_]) (rest := []) ⟨hx, hb, hml, hown, hts⟩ (c_X7_isPower l D cy z_) (va_cwS 1 hts (zG_S zw_158 zw_159 zw_2 zw_160) rfl rfl rfl zd_X7_isPower ⟨Nat.le_of_ble_eq_true rfl, Nat.le_of_ble_eq_true rfl⟩) hK hP [] rfl rfl hl.1 rfl (Nat.le_of_ble_eq_true rfl) dX7_image_22 ⟨Nat.zero_le _, Nat.zero_le _⟩ (fun r22 h22 => ?_)
      subst h22
      refine zq_ne (tgt := 31) hx hb dX7_image_25 (by decide) (fun c25 => ?_) (fun c25 => ?_)
      · skip
        have hwx := mkT_WF hw c5
        obtain ⟨j_, hj_, ej_⟩ := zz_rng (n := mN m_) (x := p_) c16
        rw [ej_] at hl
        refine lv_aload_n hx hb dX7_image_31 rfl (lv_at hl 0 rfl) ?_
        refine lv_iload_n hx hb dX7_image_32 rfl (lv_at hl 1 rfl) ?_
        refine zcRl (As := [.int a_]) (rest := []) ⟨hx, hb, hml, hown, hts⟩ (c_X7_markOrTrick l D cy ad m_ pl_ a_ (by omega) c5) (cwV 1 hts (zG_V zw_161 zw_162 zw_163 zw_2 zw_164) rfl rfl rfl zd_X7_markOrTrick ⟨Nat.le_of_ble_eq_true rfl, Nat.le_of_ble_eq_true rfl⟩) hK hP [0, 1, 2] rfl rfl rfl rfl rfl hl.1 rfl (Nat.le_of_ble_eq_true rfl) dX7_image_33 ⟨Nat.zero_le _, Nat.zero_le _⟩ (fun r33 h33 => ?_)
        subst h33
        refine lv_iload_n hx hb dX7_image_36 rfl (lv_at hl 2 rfl) ?_
        refine lv_iload_n hx hb dX7_image_37 rfl (lv_at hl 3 rfl) ?_
        refine zcSi (As := [.long (mkT m_ a_), .int z_, .int (nI j_)]) (rest := []) ⟨hx, hb, hml, hown, hts⟩ (c_X3_toAfter l D cy (mkT m_ a_) z_ j_ hwx.1 (by omega)) (va_cwS 3 hts (zG_S zw_169 zw_170 zw_119 zw_171) rfl rfl rfl zd_X3_toAfter ⟨Nat.le_of_ble_eq_true rfl, Nat.le_of_ble_eq_true rfl⟩) hK hP [] rfl rfl hl.1 rfl (Nat.le_of_ble_eq_true rfl) dX7_image_38 ⟨Nat.zero_le _, Nat.zero_le _⟩ (fun r38 h38 => ?_)
        subst h38
        exact kr _ _ _ dX7_image_41 (vp_nar_int _) (by unfold qImage; rw [if_pos ⟨c5, bP_iff.mpr c16⟩, if_pos c25, ej_, ix_nI (by omega)])
      · skip
        refine lv_bipush (v := (-2)) hx hb dX7_image_28 (by decide) ?_
        exact kr _ _ _ dX7_image_30 (vp_nar_int _) (by unfold qImage; rw [if_pos ⟨c5, bP_iff.mpr c16⟩, if_neg c25])
    · skip
      refine lv_iconst (v := (-1)) hx hb dX7_image_19 (by decide) ?_
      exact kr _ _ _ dX7_image_20 (vp_nar_int _) (by unfold qImage; rw [if_neg (fun q_ => c16 (bP_iff.mp q_.2))])
abbrev w_X7_commute : List Cond := Cond.code yX7_commute cX7_commute 7 (some .int) :: zAll
abbrev r_X7_commute : Room := { frames := 2, cells := 0, slots := 0, locals := 51 }
theorem zd_X7_commute : yX7_commute.cls = RX7 ∧ yX7_commute.cls ≠ "java/lang/invoke/MethodHandle" ∧ yX7_commute.cls ≠ "java/lang/invoke/VarHandle" ∧ (parseMethodDescriptor yX7_commute.desc).map (fun d => d.parameters.length) = some 2 := by decide +kernel
set_option maxHeartbeats 4000000 in
set_option maxRecDepth 100000 in
theorem c_X7_commute (l : Launch) (D : va_G) (cy : Nat → ClassId) (ad : Nat → Nat) (m_ : MT) (pl_ : Nat) (a_ : Int32) (b_ : Int32) (hw : TVok m_.1) : zMi l yX7_commute w_X7_commute r_X7_commute D cy [((ad 0), .inr (4, [.ref (ad 1), .ref (ad 3), .ref (ad 18), .ref (ad 25), .ref (ad 27), .ref (ad 28), .int (nI pl_), .int (nI (mU m_)), .int (nI (mX m_))])), ((ad 1), .inr (3, [.int (nI (mN m_)), .long (mP m_), .long (mT m_), .int (nI (mC m_)), .ref (ad 2)])), ((ad 2), .inl (cy 1, 6, .inr (.inl (mM m_))))] [.ref (ad 0), .int a_, .int b_] (fun r_ => r_ = (qCommute m_ a_ b_)) := by
  refine zOfR (cc := cX7_commute) (maxL := 7) (ty := .int) (by decide) rfl (Nat.le_of_ble_eq_true rfl) ?_
  intro zp ze zs zm za zb zme zc hx hb hml hts hown hP hK Q kr ls hl
  have hown : zs.vm.findClass RX7 = some zm.cls := hown
  have hl : lv_has ls 7 [(0, .ref (ad 0)), (1, .int a_), (2, .int b_)] := hl
  have hn2 := ok_2 hw
  have hn := ok_n hw
  have hC6 := ok_C hw
  have hwP := ok_P hw
  have hwT := ok_T hw
  refine lv_aload_n hx hb dX7_commute_0 rfl (lv_at hl 0 rfl) ?_
  refine lv_iload_n hx hb dX7_commute_1 rfl (lv_at hl 1 rfl) ?_
  refine zcRi (As := [.int a_]) (rest := []) ⟨hx, hb, hml, hown, hts⟩ (c_X7_isMarkOrTrick l D cy ad m_ pl_ a_ (by omega)) (cwV 1 hts (zG_V zw_150 zw_151 zw_152 zw_2 zw_153) rfl rfl rfl zd_X7_isMarkOrTrick ⟨Nat.le_of_ble_eq_true rfl, Nat.le_of_ble_eq_true rfl⟩) hK hP [0, 1] rfl rfl rfl rfl rfl hl.1 rfl (Nat.le_of_ble_eq_true rfl) dX7_commute_2 ⟨Nat.zero_le _, Nat.zero_le _⟩ (fun r2 h2 => ?_)
  subst h2
  refine zq_eq (tgt := 16) hx hb dX7_commute_5 (by decide) (fun c5 => ?_) (fun c5 => ?_)
  · skip
    refine lv_iconst (v := (-1)) hx hb dX7_commute_16 (by decide) ?_
    exact kr _ _ _ dX7_commute_17 (vp_nar_int _) (by unfold qCommute; rw [if_neg (fun q_ => c5 q_.1)])
  · skip
    refine lv_aload_n hx hb dX7_commute_8 rfl (lv_at hl 0 rfl) ?_
    refine lv_iload_n hx hb dX7_commute_9 rfl (lv_at hl 2 rfl) ?_
    refine zcRi (As := [.int b_]) (rest := []) ⟨hx, hb, hml, hown, hts⟩ (c_X7_isMarkOrTrick l D cy ad m_ pl_ b_ (by omega)) (cwV 1 hts (zG_V zw_150 zw_151 zw_152 zw_2 zw_153) rfl rfl rfl zd_X7_isMarkOrTrick ⟨Nat.le_of_ble_eq_true rfl, Nat.le_of_ble_eq_true rfl⟩) hK hP [0, 1] rfl rfl rfl rfl rfl hl.1 rfl (Nat.le_of_ble_eq_true rfl) dX7_commute_10 ⟨Nat.zero_le _, Nat.zero_le _⟩ (fun r10 h10 => ?_)
    subst h10
    refine zq_ne (tgt := 18) hx hb dX7_commute_13 (by decide) (fun c13 => ?_) (fun c13 => ?_)
    · skip
      refine lv_aload_n hx hb dX7_commute_18 rfl (lv_at hl 0 rfl) ?_
      refine lv_iload_n hx hb dX7_commute_19 rfl (lv_at hl 1 rfl) ?_
      refine zcRl (As := [.int a_]) (rest := []) ⟨hx, hb, hml, hown, hts⟩ (c_X7_markOrTrick l D cy ad m_ pl_ a_ (by omega) c5) (cwV 1 hts (zG_V zw_161 zw_162 zw_163 zw_2 zw_164) rfl rfl rfl zd_X7_markOrTrick ⟨Nat.le_of_ble_eq_true rfl, Nat.le_of_ble_eq_true rfl⟩) hK hP [0, 1, 2] rfl rfl rfl rfl rfl hl.1 rfl (Nat.le_of_ble_eq_true rfl) dX7_commute_20 ⟨Nat.zero_le _, Nat.zero_le _⟩ (fun r20 h20 => ?_)
      subst h20
      refine lv_lstore_n (lv' := [(3, .long (mkT m_ a_)), (0, .ref (ad 0)), (1, .int a_), (2, .int b_)]) hx hb dX7_commute_23 rfl hl (by decide) rfl (fun ls hl => ?_)
      refine lv_aload_n hx hb dX7_commute_24 rfl (lv_at hl 1 rfl) ?_
      refine lv_iload_n hx hb dX7_commute_25 rfl (lv_at hl 3 rfl) ?_
      refine zcRl (As := [.int b_]) (rest := []) ⟨hx, hb, hml, hown, hts⟩ (c_X7_markOrTrick l D cy ad m_ pl_ b_ (by omega) c13) (cwV 1 hts (zG_V zw_161 zw_162 zw_163 zw_2 zw_164) rfl rfl rfl zd_X7_markOrTrick ⟨Nat.le_of_ble_eq_true rfl, Nat.le_of_ble_eq_true rfl⟩) hK hP [0, 1, 2] rfl rfl rfl rfl rfl hl.1 rfl (Nat.le_of_ble_eq_true rfl) dX7_commute_26 ⟨Nat.zero_le _, Nat.zero_le _⟩ (fun r26 h26 => ?_)
      subst h26
      refine lv_lstore (lv' := [(5, .long (mkT m_ b_)), (3, .long (mkT m_ a_)), (0, .ref (ad 0)), (1, .int a_), (2, .int b_)]) hx hb dX7_commute_29 hl (by decide) rfl (fun ls hl => ?_)
      refine lv_lload_n hx hb dX7_commute_31 rfl (lv_at hl 1 rfl) ?_
      refine lv_lload hx hb dX7_commute_32 (lv_at hl 0 rfl) ?_
      refine zcSl (As := [.long (mkT m_ a_), .long (mkT m_ b_)]) (rest := []) ⟨hx, hb, hml, hown, hts⟩ (c_X3_then l D cy (mkT m_ a_) (mkT m_ b_)) (va_cwS 2 hts (zG_S zw_220 zw_221 zw_119 zw_222) rfl rfl rfl zd_X3_then ⟨Nat.le_of_ble_eq_true rfl, Nat.le_of_ble_eq_true rfl⟩) hK hP [] rfl rfl hl.1 rfl (Nat.le_of_ble_eq_true rfl) dX7_commute_34 ⟨Nat.zero_le _, Nat.zero_le _⟩ (fun r34 h34 => ?_)
      subst h34
      refine lv_lload hx hb dX7_commute_37 (lv_at hl 0 rfl) ?_
      refine lv_lload_n hx hb dX7_commute_39 rfl (lv_at hl 1 rfl) ?_
      refine zcSl (As := [.long (mkT m_ b_), .long (mkT m_ a_)]) (rest := [.long (thenL (mkT m_ a_) (mkT m_ b_))]) ⟨hx, hb, hml, hown, hts⟩ (c_X3_then l D cy (mkT m_ b_) (mkT m_ a_)) (va_cwS 2 hts (zG_S zw_220 zw_221 zw_119 zw_222) rfl rfl rfl zd_X3_then ⟨Nat.le_of_ble_eq_true rfl, Nat.le_of_ble_eq_true rfl⟩) hK hP [] rfl rfl hl.1 rfl (Nat.le_of_ble_eq_true rfl) dX7_commute_40 ⟨Nat.zero_le _, Nat.zero_le _⟩ (fun r40 h40 => ?_)
      subst h40
      refine W.lcmp hx hb dX7_commute_43 ?_
      refine zc_ne (tgt := 51) hx hb dX7_commute_44 (by decide) (fun c44 => ?_) (fun c44 => ?_)
      · skip
        refine lv_iconst (v := nI 0) hx hb dX7_commute_51 (by decide) ?_
        exact kr _ _ _ dX7_commute_52 (vp_nar_int _) (by unfold qCommute; rw [if_pos ⟨c5, c13⟩, if_neg c44]; rfl)
      · skip
        refine lv_iconst (v := nI 1) hx hb dX7_commute_47 (by decide) ?_
        refine lv_goto (tgt := 52) hx hb dX7_commute_48 (by decide) ?_
        exact kr _ _ _ dX7_commute_52 (vp_nar_int _) (by unfold qCommute; rw [if_pos ⟨c5, c13⟩, if_pos c44]; rfl)
    · skip
      refine lv_iconst (v := (-1)) hx hb dX7_commute_16 (by decide) ?_
      exact kr _ _ _ dX7_commute_17 (vp_nar_int _) (by unfold qCommute; rw [if_neg (fun q_ => c13 q_.2)])
abbrev w_X7_count : List Cond := Cond.code yX7_count cX7_count 2 (some .int) :: zAll
abbrev r_X7_count : Room := { frames := 3, cells := 0, slots := 0, locals := 66 }
theorem zd_X7_count : yX7_count.cls = RX7 ∧ yX7_count.cls ≠ "java/lang/invoke/MethodHandle" ∧ yX7_count.cls ≠ "java/lang/invoke/VarHandle" ∧ (parseMethodDescriptor yX7_count.desc).map (fun d => d.parameters.length) = some 1 := by decide +kernel
set_option maxHeartbeats 4000000 in
set_option maxRecDepth 100000 in
theorem c_X7_count (l : Launch) (D : va_G) (cy : Nat → ClassId) (ad : Nat → Nat) (m_ : MT) (pl_ : Nat) (w_ : Int32) (hw : TVok m_.1) : zMi l yX7_count w_X7_count r_X7_count D cy [((ad 0), .inr (4, [.ref (ad 1), .ref (ad 3), .ref (ad 18), .ref (ad 25), .ref (ad 27), .ref (ad 28), .int (nI pl_), .int (nI (mU m_)), .int (nI (mX m_))])), ((ad 1), .inr (3, [.int (nI (mN m_)), .long (mP m_), .long (mT m_), .int (nI (mC m_)), .ref (ad 2)]))] [.ref (ad 0), .int w_] (fun r_ => r_ = (qCount m_ pl_ w_)) := by
  refine zOfR (cc := cX7_count) (maxL := 2) (ty := .int) (by decide) rfl (Nat.le_of_ble_eq_true rfl) ?_
  intro zp ze zs zm za zb zme zc hx hb hml hts hown hP hK Q kr ls hl
  have hown : zs.vm.findClass RX7 = some zm.cls := hown
  have hl : lv_has ls 2 [(0, .ref (ad 0)), (1, .int w_)] := hl
  have hn2 := ok_2 hw
  have hn := ok_n hw
  have hC6 := ok_C hw
  have hwP := ok_P hw
  have hwT := ok_T hw
  refine lv_iload_n hx hb dX7_count_0 rfl (lv_at hl 1 rfl) ?_
  have hsw1 : (w_).toInt = (w_).toInt := rfl
  rcases (show (w_).toInt = 0 ∨ (w_).toInt = 1 ∨ (w_).toInt = 2 ∨ (w_).toInt = 3 ∨ (w_).toInt = 4 ∨ (w_).toInt = 5 ∨ (w_).toInt = 6 ∨ ((w_).toInt < 0 ∨ 6 < (w_).toInt) by omega) with c1 | c1 | c1 | c1 | c1 | c1 | c1 | c1
  · refine lv_tableIn (tgt := 44) (off := 43) hx hb dX7_count_1 (by rw [hsw1, c1]; decide) (by rw [hsw1, c1]; decide) (by rw [hsw1, c1]; rfl) (by decide) ?_
    refine lv_aload_n hx hb dX7_count_44 rfl (lv_at hl 0 rfl) ?_
    refine va_get (D := D) (ci := 4) (v := .ref (ad 1)) (C := RX7) (T := TX7) (N := 9) hx hb hts (fun w h => List.mem_cons_of_mem _ (zinX7 w h)) hown hK.1 hP 0 rfl rfl 0 (by decide) (hts _ (List.mem_cons_of_mem _ zw_12)) (fun _ h9 => h9) rfl dX7_count_45 ?_
    refine va_getN (D := D) (ci := 3) (v := .int (nI (mN m_))) (C := RX6) (T := TX6) (N := 5) hx hb hts (fun w h => List.mem_cons_of_mem _ (zinX6 w h)) hown hK.1 hP 1 rfl rfl 0 (by decide) (zK_nest hK 0 rfl) (fun _ h9 => h9) rfl dX7_count_48 ?_
    exact kr _ _ _ dX7_count_51 (vp_nar_int _) (by unfold qCount; rw [if_pos c1])
  · refine lv_tableIn (tgt := 52) (off := 51) hx hb dX7_count_1 (by rw [hsw1, c1]; decide) (by rw [hsw1, c1]; decide) (by rw [hsw1, c1]; rfl) (by decide) ?_
    refine lv_aload_n hx hb dX7_count_52 rfl (lv_at hl 0 rfl) ?_
    refine va_get (D := D) (ci := 4) (v := .ref (ad 1)) (C := RX7) (T := TX7) (N := 9) hx hb hts (fun w h => List.mem_cons_of_mem _ (zinX7 w h)) hown hK.1 hP 0 rfl rfl 0 (by decide) (hts _ (List.mem_cons_of_mem _ zw_12)) (fun _ h9 => h9) rfl dX7_count_53 ?_
    refine va_getN (D := D) (ci := 3) (v := .int (nI (mC m_))) (C := RX6) (T := TX6) (N := 5) hx hb hts (fun w h => List.mem_cons_of_mem _ (zinX6 w h)) hown hK.1 hP 1 rfl rfl 3 (by decide) (zK_nest hK 3 rfl) (fun _ h9 => h9) rfl dX7_count_56 ?_
    exact kr _ _ _ dX7_count_59 (vp_nar_int _) (by unfold qCount; rw [if_neg (by omega), if_pos c1])
  · refine lv_tableIn (tgt := 60) (off := 59) hx hb dX7_count_1 (by rw [hsw1, c1]; decide) (by rw [hsw1, c1]; decide) (by rw [hsw1, c1]; rfl) (by decide) ?_
    refine lv_aload_n hx hb dX7_count_60 rfl (lv_at hl 0 rfl) ?_
    refine va_get (D := D) (ci := 4) (v := .ref (ad 1)) (C := RX7) (T := TX7) (N := 9) hx hb hts (fun w h => List.mem_cons_of_mem _ (zinX7 w h)) hown hK.1 hP 0 rfl rfl 0 (by decide) (hts _ (List.mem_cons_of_mem _ zw_12)) (fun _ h9 => h9) rfl dX7_count_61 ?_
    refine va_getN (D := D) (ci := 3) (v := .long (mP m_)) (C := RX6) (T := TX6) (N := 5) hx hb hts (fun w h => List.mem_cons_of_mem _ (zinX6 w h)) hown hK.1 hP 1 rfl rfl 1 (by decide) (zK_nest hK 1 rfl) (fun _ h9 => h9) rfl dX7_count_64 ?_
    refine lv_aload_n hx hb dX7_count_67 rfl (lv_at hl 0 rfl) ?_
    refine va_get (D := D) (ci := 4) (v := .ref (ad 1)) (C := RX7) (T := TX7) (N := 9) hx hb hts (fun w h => List.mem_cons_of_mem _ (zinX7 w h)) hown hK.1 hP 0 rfl rfl 0 (by decide) (hts _ (List.mem_cons_of_mem _ zw_12)) (fun _ h9 => h9) rfl dX7_count_68 ?_
    refine va_getN (D := D) (ci := 3) (v := .int (nI (mN m_))) (C := RX6) (T := TX6) (N := 5) hx hb hts (fun w h => List.mem_cons_of_mem _ (zinX6 w h)) hown hK.1 hP 1 rfl rfl 0 (by decide) (zK_nest hK 0 rfl) (fun _ h9 => h9) rfl dX7_count_71 ?_
    refine zcSi (As := [.long (mP m_), .int (nI (mN m_))]) (rest := []) ⟨hx, hb, hml, hown, hts⟩ (c_X3_fixedPlaces l D cy (mP m_) (mN m_) (by omega)) (va_cwS 2 hts (zG_S zw_117 zw_118 zw_119 zw_120) rfl rfl rfl zd_X3_fixedPlaces ⟨Nat.le_of_ble_eq_true rfl, Nat.le_of_ble_eq_true rfl⟩) hK hP [] rfl rfl hl.1 rfl (Nat.le_of_ble_eq_true rfl) dX7_count_74 ⟨Nat.zero_le _, Nat.zero_le _⟩ (fun r74 h74 => ?_)
    subst h74
    exact kr _ _ _ dX7_count_77 (vp_nar_int _) (by unfold qCount; rw [if_neg (by omega), if_neg (by omega), if_pos c1])
  · refine lv_tableIn (tgt := 78) (off := 77) hx hb dX7_count_1 (by rw [hsw1, c1]; decide) (by rw [hsw1, c1]; decide) (by rw [hsw1, c1]; rfl) (by decide) ?_
    refine lv_aload_n hx hb dX7_count_78 rfl (lv_at hl 0 rfl) ?_
    refine va_get (D := D) (ci := 4) (v := .ref (ad 1)) (C := RX7) (T := TX7) (N := 9) hx hb hts (fun w h => List.mem_cons_of_mem _ (zinX7 w h)) hown hK.1 hP 0 rfl rfl 0 (by decide) (hts _ (List.mem_cons_of_mem _ zw_12)) (fun _ h9 => h9) rfl dX7_count_79 ?_
    refine va_getN (D := D) (ci := 3) (v := .long (mP m_)) (C := RX6) (T := TX6) (N := 5) hx hb hts (fun w h => List.mem_cons_of_mem _ (zinX6 w h)) hown hK.1 hP 1 rfl rfl 1 (by decide) (zK_nest hK 1 rfl) (fun _ h9 => h9) rfl dX7_count_82 ?_
    refine lv_ldc2 hx hb hown (hts _ (List.mem_cons_of_mem _ zw_116)) dX7_count_85 ?_
    refine zl_top (v := stayL) rfl ?_
    refine W.lcmp hx hb dX7_count_88 ?_
    refine zc_ne (tgt := 96) hx hb dX7_count_89 (by decide) (fun c89 => ?_) (fun c89 => ?_)
    · skip
      refine lv_iconst (v := nI 0) hx hb dX7_count_96 (by decide) ?_
      exact kr _ _ _ dX7_count_97 (vp_nar_int _) (by unfold qCount; rw [if_neg (by omega), if_neg (by omega), if_neg (by omega), if_pos c1, if_neg c89])
    · skip
      refine lv_iconst (v := nI 1) hx hb dX7_count_92 (by decide) ?_
      refine lv_goto (tgt := 97) hx hb dX7_count_93 (by decide) ?_
      exact kr _ _ _ dX7_count_97 (vp_nar_int _) (by unfold qCount; rw [if_neg (by omega), if_neg (by omega), if_neg (by omega), if_pos c1, if_pos c89])
  · refine lv_tableIn (tgt := 98) (off := 97) hx hb dX7_count_1 (by rw [hsw1, c1]; decide) (by rw [hsw1, c1]; decide) (by rw [hsw1, c1]; rfl) (by decide) ?_
    refine lv_aload_n hx hb dX7_count_98 rfl (lv_at hl 0 rfl) ?_
    refine zcRi (As := []) (rest := []) ⟨hx, hb, hml, hown, hts⟩ (c_X7_placesMoved l D cy ad m_ pl_ (by omega)) (cwV 0 hts (zG_V zw_124 zw_125 zw_126 zw_2 zw_127) rfl rfl rfl zd_X7_placesMoved ⟨Nat.le_of_ble_eq_true rfl, Nat.le_of_ble_eq_true rfl⟩) hK hP [0, 1] rfl rfl rfl rfl rfl hl.1 rfl (Nat.le_of_ble_eq_true rfl) dX7_count_99 ⟨Nat.zero_le _, Nat.zero_le _⟩ (fun r99 h99 => ?_)
    subst h99
    exact kr _ _ _ dX7_count_102 (vp_nar_int _) (by unfold qCount; rw [if_neg (by omega), if_neg (by omega), if_neg (by omega), if_neg (by omega), if_pos c1])
  · refine lv_tableIn (tgt := 103) (off := 102) hx hb dX7_count_1 (by rw [hsw1, c1]; decide) (by rw [hsw1, c1]; decide) (by rw [hsw1, c1]; rfl) (by decide) ?_
    refine lv_aload_n hx hb dX7_count_103 rfl (lv_at hl 0 rfl) ?_
    refine va_get (D := D) (ci := 4) (v := .int (nI pl_)) (C := RX7) (T := TX7) (N := 9) hx hb hts (fun w h => List.mem_cons_of_mem _ (zinX7 w h)) hown hK.1 hP 0 rfl rfl 6 (by decide) (hts _ (List.mem_cons_of_mem _ zw_28)) (fun _ h9 => h9) rfl dX7_count_104 ?_
    exact kr _ _ _ dX7_count_107 (vp_nar_int _) (by unfold qCount; rw [if_neg (by omega), if_neg (by omega), if_neg (by omega), if_neg (by omega), if_neg (by omega), if_pos c1])
  · refine lv_tableIn (tgt := 108) (off := 107) hx hb dX7_count_1 (by rw [hsw1, c1]; decide) (by rw [hsw1, c1]; decide) (by rw [hsw1, c1]; rfl) (by decide) ?_
    refine lv_aload_n hx hb dX7_count_108 rfl (lv_at hl 0 rfl) ?_
    refine va_get (D := D) (ci := 4) (v := .int (nI (mU m_))) (C := RX7) (T := TX7) (N := 9) hx hb hts (fun w h => List.mem_cons_of_mem _ (zinX7 w h)) hown hK.1 hP 0 rfl rfl 7 (by decide) (hts _ (List.mem_cons_of_mem _ zw_29)) (fun _ h9 => h9) rfl dX7_count_109 ?_
    exact kr _ _ _ dX7_count_112 (vp_nar_int _) (by unfold qCount; rw [if_neg (by omega), if_neg (by omega), if_neg (by omega), if_neg (by omega), if_neg (by omega), if_neg (by omega), if_pos c1])
  · refine lv_tableOut (tgt := 113) hx hb dX7_count_1 (by rw [hsw1]; exact c1) (by decide) ?_
    refine lv_bipush (v := (-2)) hx hb dX7_count_113 (by decide) ?_
    exact kr _ _ _ dX7_count_115 (vp_nar_int _) (by unfold qCount; rw [if_neg (by omega), if_neg (by omega), if_neg (by omega), if_neg (by omega), if_neg (by omega), if_neg (by omega), if_neg (by omega)])
abbrev w_X7_byCut : List Cond := Cond.code yX7_byCut cX7_byCut 4 (some .int) :: zAll
abbrev r_X7_byCut : Room := { frames := 2, cells := 0, slots := 0, locals := 51 }
theorem zd_X7_byCut : yX7_byCut.cls = RX7 ∧ yX7_byCut.cls ≠ "java/lang/invoke/MethodHandle" ∧ yX7_byCut.cls ≠ "java/lang/invoke/VarHandle" ∧ (parseMethodDescriptor yX7_byCut.desc).map (fun d => d.parameters.length) = some 3 := by decide +kernel
set_option maxHeartbeats 4000000 in
set_option maxRecDepth 100000 in
theorem c_X7_byCut (l : Launch) (D : va_G) (cy : Nat → ClassId) (ad : Nat → Nat) (m_ : MT) (pl_ : Nat) (a_ : Int32) (k_ : Int32) (p_ : Int32) (hw : TVok m_.1) : zMi l yX7_byCut w_X7_byCut r_X7_byCut D cy [((ad 0), .inr (4, [.ref (ad 1), .ref (ad 3), .ref (ad 18), .ref (ad 25), .ref (ad 27), .ref (ad 28), .int (nI pl_), .int (nI (mU m_)), .int (nI (mX m_))])), ((ad 1), .inr (3, [.int (nI (mN m_)), .long (mP m_), .long (mT m_), .int (nI (mC m_)), .ref (ad 2)])), ((ad 2), .inl (cy 1, 6, .inr (.inl (mM m_))))] [.ref (ad 0), .int a_, .int k_, .int p_] (fun r_ => r_ = (qByCut m_ a_ k_ p_)) := by
  refine zOfR (cc := cX7_byCut) (maxL := 4) (ty := .int) (by decide) rfl (Nat.le_of_ble_eq_true rfl) ?_
  intro zp ze zs zm za zb zme zc hx hb hml hts hown hP hK Q kr ls hl
  have hown : zs.vm.findClass RX7 = some zm.cls := hown
  have hl : lv_has ls 4 [(0, .ref (ad 0)), (1, .int a_), (2, .int k_), (3, .int p_)] := hl
  have hn2 := ok_2 hw
  have hn := ok_n hw
  have hC6 := ok_C hw
  have hwP := ok_P hw
  have hwT := ok_T hw
  refine lv_aload_n hx hb dX7_byCut_0 rfl (lv_at hl 0 rfl) ?_
  refine va_get (D := D) (ci := 4) (v := .ref (ad 1)) (C := RX7) (T := TX7) (N := 9) hx hb hts (fun w h => List.mem_cons_of_mem _ (zinX7 w h)) hown hK.1 hP 0 rfl rfl 0 (by decide) (hts _ (List.mem_cons_of_mem _ zw_12)) (fun _ h9 => h9) rfl dX7_byCut_1 ?_
  refine lv_iload_n hx hb dX7_byCut_4 rfl (lv_at hl 1 rfl) ?_
  refine zcRi (As := [.int a_]) (rest := []) ⟨hx, hb, hml, hown, hts⟩ (c_X6_hasMark l D cy (ad 1) (ad 2) (mN m_) (mP m_) (mT m_) (mC m_) a_ (by omega)) (cwV 1 hts (zG_V zw_154 zw_155 zw_156 zw_11 zw_157) rfl rfl rfl zd_X6_hasMark ⟨Nat.le_of_ble_eq_true rfl, Nat.le_of_ble_eq_true rfl⟩) hK hP [1] rfl rfl rfl rfl rfl hl.1 rfl (Nat.le_of_ble_eq_true rfl) dX7_byCut_5 ⟨Nat.zero_le _, Nat.zero_le _⟩ (fun r5 h5 => ?_)
  subst h5
  refine zq_eq (tgt := 22) hx hb dX7_byCut_8 (by decide) (fun c8 => ?_) (fun c8 => ?_)
  · skip
    refine lv_iconst (v := (-1)) hx hb dX7_byCut_22 (by decide) ?_
    exact kr _ _ _ dX7_byCut_23 (vp_nar_int _) (by unfold qByCut; rw [if_neg (fun q_ => c8 (bM_iff.mp q_.1))])
  · skip
    refine lv_aload_n hx hb dX7_byCut_11 rfl (lv_at hl 0 rfl) ?_
    refine va_get (D := D) (ci := 4) (v := .ref (ad 1)) (C := RX7) (T := TX7) (N := 9) hx hb hts (fun w h => List.mem_cons_of_mem _ (zinX7 w h)) hown hK.1 hP 0 rfl rfl 0 (by decide) (hts _ (List.mem_cons_of_mem _ zw_12)) (fun _ h9 => h9) rfl dX7_byCut_12 ?_
    refine lv_iload_n hx hb dX7_byCut_15 rfl (lv_at hl 3 rfl) ?_
    refine zcRi (As := [.int p_]) (rest := []) ⟨hx, hb, hml, hown, hts⟩ (c_X6_hasPlace l D cy (ad 1) (ad 2) (mN m_) (mP m_) (mT m_) (mC m_) p_ (by omega)) (cwV 1 hts (zG_V zw_139 zw_140 zw_141 zw_11 zw_142) rfl rfl rfl zd_X6_hasPlace ⟨Nat.le_of_ble_eq_true rfl, Nat.le_of_ble_eq_true rfl⟩) hK hP [1] rfl rfl rfl rfl rfl hl.1 rfl (Nat.le_of_ble_eq_true rfl) dX7_byCut_16 ⟨Nat.zero_le _, Nat.zero_le _⟩ (fun r16 h16 => ?_)
    subst h16
    refine zq_ne (tgt := 24) hx hb dX7_byCut_19 (by decide) (fun c19 => ?_) (fun c19 => ?_)
    · skip
      refine lv_aload_n hx hb dX7_byCut_24 rfl (lv_at hl 0 rfl) ?_
      refine va_get (D := D) (ci := 4) (v := .ref (ad 1)) (C := RX7) (T := TX7) (N := 9) hx hb hts (fun w h => List.mem_cons_of_mem _ (zinX7 w h)) hown hK.1 hP 0 rfl rfl 0 (by decide) (hts _ (List.mem_cons_of_mem _ zw_12)) (fun _ h9 => h9) rfl dX7_byCut_25 ?_
      refine lv_iload_n hx hb dX7_byCut_28 rfl (lv_at hl 2 rfl) ?_
      refine zcRi (As := [.int k_]) (rest := []) ⟨hx, hb, hml, hown, hts⟩ (c_X6_hasPlace l D cy (ad 1) (ad 2) (mN m_) (mP m_) (mT m_) (mC m_) k_ (by omega)) (cwV 1 hts (zG_V zw_139 zw_140 zw_141 zw_11 zw_142) rfl rfl rfl zd_X6_hasPlace ⟨Nat.le_of_ble_eq_true rfl, Nat.le_of_ble_eq_true rfl⟩) hK hP [1] rfl rfl rfl rfl rfl hl.1 rfl (Nat.le_of_ble_eq_true rfl) dX7_byCut_29 ⟨Nat.zero_le _, Nat.zero_le _⟩ (fun r29 h29 => ?_)
      subst h29
      refine zq_ne (tgt := 38) hx hb dX7_byCut_32 (by decide) (fun c32 => ?_) (fun c32 => ?_)
      · skip
        obtain ⟨ja_, hja_, eja_⟩ := zz_rng (n := mC m_) (x := a_) c8
        rw [eja_] at hl
        obtain ⟨jk_, hjk_, ejk_⟩ := zz_rng (n := mN m_) (x := k_) c32
        rw [ejk_] at hl
        obtain ⟨jp_, hjp_, ejp_⟩ := zz_rng (n := mN m_) (x := p_) c19
        rw [ejp_] at hl
        refine lv_aload_n hx hb dX7_byCut_38 rfl (lv_at hl 0 rfl) ?_
        refine va_get (D := D) (ci := 4) (v := .ref (ad 1)) (C := RX7) (T := TX7) (N := 9) hx hb hts (fun w h => List.mem_cons_of_mem _ (zinX7 w h)) hown hK.1 hP 0 rfl rfl 0 (by decide) (hts _ (List.mem_cons_of_mem _ zw_12)) (fun _ h9 => h9) rfl dX7_byCut_39 ?_
        refine lv_iload_n hx hb dX7_byCut_42 rfl (lv_at hl 1 rfl) ?_
        refine zcRl (As := [.int (nI ja_)]) (rest := []) ⟨hx, hb, hml, hown, hts⟩ (c_X6_movesOf l D cy (ad 1) (ad 2) (mN m_) (mP m_) (mT m_) (mC m_) (mM m_) ja_ (by omega)) (cwV 1 hts (zG_V zw_165 zw_166 zw_167 zw_11 zw_168) rfl rfl rfl zd_X6_movesOf ⟨Nat.le_of_ble_eq_true rfl, Nat.le_of_ble_eq_true rfl⟩) hK hP [1, 2] rfl rfl rfl rfl rfl hl.1 rfl (Nat.le_of_ble_eq_true rfl) dX7_byCut_43 ⟨Nat.zero_le _, Nat.zero_le _⟩ (fun r43 h43 => ?_)
        subst h43
        refine lv_iload_n hx hb dX7_byCut_46 rfl (lv_at hl 2 rfl) ?_
        refine lv_aload_n hx hb dX7_byCut_47 rfl (lv_at hl 0 rfl) ?_
        refine va_get (D := D) (ci := 4) (v := .ref (ad 1)) (C := RX7) (T := TX7) (N := 9) hx hb hts (fun w h => List.mem_cons_of_mem _ (zinX7 w h)) hown hK.1 hP 0 rfl rfl 0 (by decide) (hts _ (List.mem_cons_of_mem _ zw_12)) (fun _ h9 => h9) rfl dX7_byCut_48 ?_
        refine va_getN (D := D) (ci := 3) (v := .int (nI (mN m_))) (C := RX6) (T := TX6) (N := 5) hx hb hts (fun w h => List.mem_cons_of_mem _ (zinX6 w h)) hown hK.1 hP 1 rfl rfl 0 (by decide) (zK_nest hK 0 rfl) (fun _ h9 => h9) rfl dX7_byCut_51 ?_
        refine zcSl (As := [.long ((mM m_) ja_), .int (nI jk_), .int (nI (mN m_))]) (rest := []) ⟨hx, hb, hml, hown, hts⟩ (c_X5_becomesBy l D cy ((mM m_) ja_) jk_ (mN m_) (ok_M hw hja_) (by omega) (by omega)) (va_cwS 3 hts (zG_S zw_331 zw_332 zw_270 zw_333) rfl rfl rfl zd_X5_becomesBy ⟨Nat.le_of_ble_eq_true rfl, Nat.le_of_ble_eq_true rfl⟩) hK hP [] rfl rfl hl.1 rfl (Nat.le_of_ble_eq_true rfl) dX7_byCut_54 ⟨Nat.zero_le _, Nat.zero_le _⟩ (fun r54 h54 => ?_)
        subst h54
        refine lv_iload_n hx hb dX7_byCut_57 rfl (lv_at hl 3 rfl) ?_
        refine zcSi (As := [.long (becL ((mM m_) ja_) jk_ (mN m_)), .int (nI jp_)]) (rest := []) ⟨hx, hb, hml, hown, hts⟩ (c_X3_to l D cy (becL ((mM m_) ja_) jk_ (mN m_)) jp_ (by omega)) (va_cwS 2 hts (zG_S zw_346 zw_122 zw_119 zw_123) rfl rfl rfl zd_X3_to ⟨Nat.le_of_ble_eq_true rfl, Nat.le_of_ble_eq_true rfl⟩) hK hP [] rfl rfl hl.1 rfl (Nat.le_of_ble_eq_true rfl) dX7_byCut_58 ⟨Nat.zero_le _, Nat.zero_le _⟩ (fun r58 h58 => ?_)
        subst h58
        exact kr _ _ _ dX7_byCut_61 (vp_nar_int _) (by unfold qByCut; rw [if_pos ⟨bM_iff.mpr c8, bP_iff.mpr c19⟩, if_pos (bP_iff.mpr c32), eja_, ejk_, ejp_, ix_nI (by omega), ix_nI (by omega), ix_nI (by omega)])
      · skip
        refine lv_bipush (v := (-2)) hx hb dX7_byCut_35 (by decide) ?_
        exact kr _ _ _ dX7_byCut_37 (vp_nar_int _) (by unfold qByCut; rw [if_pos ⟨bM_iff.mpr c8, bP_iff.mpr c19⟩, if_neg (fun q_ => c32 (bP_iff.mp q_))])
    · skip
      refine lv_iconst (v := (-1)) hx hb dX7_byCut_22 (by decide) ?_
      exact kr _ _ _ dX7_byCut_23 (vp_nar_int _) (by unfold qByCut; rw [if_neg (fun q_ => c19 (bP_iff.mp q_.2))])

abbrev w_X7_of : List Cond := Cond.code yX7_of cX7_of 5 (some .int) :: zAll
abbrev r_X7_of : Room := { frames := 3, cells := 0, slots := 0, locals := 75 }
theorem zd_X7_of : yX7_of.cls = RX7 ∧ yX7_of.cls ≠ "java/lang/invoke/MethodHandle" ∧ yX7_of.cls ≠ "java/lang/invoke/VarHandle" ∧ (parseMethodDescriptor yX7_of.desc).map (fun d => d.parameters.length) = some 2 := by decide +kernel
set_option maxHeartbeats 4000000 in
set_option maxRecDepth 100000 in
theorem c_X7_of (l : Launch) (D : va_G) (cy : Nat → ClassId) (sz : Nat) (ad : Nat → Nat) (m_ : MT) (pl_ : Nat) (c_ : Nat → Nat) (a_ : Int32) (w_ : Int32) (hw : TVok m_.1) : zWi l yX7_of w_X7_of r_X7_of D cy [((ad 0), .inr (4, [.ref (ad 1), .ref (ad 3), .ref (ad 18), .ref (ad 25), .ref (ad 27), .ref (ad 28), .int (nI pl_), .int (nI (mU m_)), .int (nI (mX m_))])), ((ad 1), .inr (3, [.int (nI (mN m_)), .long (mP m_), .long (mT m_), .int (nI (mC m_)), .ref (ad 2)])), ((ad 2), .inl (cy 1, 6, .inr (.inl (mM m_)))), ((ad 25), .inr (0, [.ref (ad 26)])), ((ad 26), .inl (cy 0, 17, .inl (nIf c_)))] sz [.ref (ad 0), .int a_, .int w_] (fun (r_ : Int32) (u : (Nat → Nat)) => r_ = (qOf m_ a_ w_) ∧ True) (fun u : (Nat → Nat) => ([((ad 0), .inr (4, [.ref (ad 1), .ref (ad 3), .ref (ad 18), .ref (ad 25), .ref (ad 27), .ref (ad 28), .int (nI pl_), .int (nI (mU m_)), .int (nI (mX m_))])), ((ad 1), .inr (3, [.int (nI (mN m_)), .long (mP m_), .long (mT m_), .int (nI (mC m_)), .ref (ad 2)])), ((ad 2), .inl (cy 1, 6, .inr (.inl (mM m_)))), ((ad 25), .inr (0, [.ref (ad 26)])), ((ad 26), .inl (cy 0, 17, .inl (nIf u)))] : va_W)) := by
  refine zOfW (cc := cX7_of) (maxL := 5) (ty := .int) (by decide) rfl (Nat.le_of_ble_eq_true rfl) ?_
  intro zp ze zs zm za zb zme zc hx hb hml hts hown hP hK zA hD hA Q kr ls hl
  have hS : va_S zA zs.heap zs.heap [] := va_S.rf
  have hown : zs.vm.findClass RX7 = some zm.cls := hown
  have hl : lv_has ls 5 [(0, .ref (ad 0)), (1, .int a_), (2, .int w_)] := hl
  have hn2 := ok_2 hw
  have hn := ok_n hw
  have hC6 := ok_C hw
  have hwP := ok_P hw
  have hwT := ok_T hw
  refine lv_aload_n hx hb dX7_of_0 rfl (lv_at hl 0 rfl) ?_
  refine lv_iload_n hx hb dX7_of_1 rfl (lv_at hl 1 rfl) ?_
  refine zcRi (As := [.int a_]) (rest := []) ⟨hx, hb, hml, hown, hts⟩ (c_X7_isMarkOrTrick l D cy ad m_ pl_ a_ (by omega)) (cwV 1 hts (zG_V zw_150 zw_151 zw_152 zw_2 zw_153) rfl rfl rfl zd_X7_isMarkOrTrick ⟨Nat.le_of_ble_eq_true rfl, Nat.le_of_ble_eq_true rfl⟩) hK hP [0, 1] rfl rfl rfl rfl rfl hl.1 rfl (Nat.le_of_ble_eq_true rfl) dX7_of_2 ⟨Nat.zero_le _, Nat.zero_le _⟩ (fun r2 h2 => ?_)
  subst h2
  refine zq_ne (tgt := 10) hx hb dX7_of_5 (by decide) (fun c5 => ?_) (fun c5 => ?_)
  · skip
    refine lv_aload_n hx hb dX7_of_10 rfl (lv_at hl 0 rfl) ?_
    refine lv_iload_n hx hb dX7_of_11 rfl (lv_at hl 1 rfl) ?_
    refine zcRl (As := [.int a_]) (rest := []) ⟨hx, hb, hml, hown, hts⟩ (c_X7_markOrTrick l D cy ad m_ pl_ a_ (by omega) c5) (cwV 1 hts (zG_V zw_161 zw_162 zw_163 zw_2 zw_164) rfl rfl rfl zd_X7_markOrTrick ⟨Nat.le_of_ble_eq_true rfl, Nat.le_of_ble_eq_true rfl⟩) hK hP [0, 1, 2] rfl rfl rfl rfl rfl hl.1 rfl (Nat.le_of_ble_eq_true rfl) dX7_of_12 ⟨Nat.zero_le _, Nat.zero_le _⟩ (fun r12 h12 => ?_)
    subst h12
    have hwx := mkT_WF hw c5
    refine lv_lstore_n (lv' := [(3, .long (mkT m_ a_)), (0, .ref (ad 0)), (1, .int a_), (2, .int w_)]) hx hb dX7_of_15 rfl hl (by decide) rfl (fun ls hl => ?_)
    refine lv_aload_n hx hb dX7_of_16 rfl (lv_at hl 1 rfl) ?_
    refine va_get (D := D) (ci := 4) (v := .ref (ad 25)) (C := RX7) (T := TX7) (N := 9) hx hb hts (fun w h => List.mem_cons_of_mem _ (zinX7 w h)) hown hK.1 hP 0 rfl rfl 3 (by decide) (hts _ (List.mem_cons_of_mem _ zw_21)) (fun _ h9 => h9) rfl dX7_of_17 ?_
    refine lv_lload_n hx hb dX7_of_20 rfl (lv_at hl 0 rfl) ?_
    refine lv_aload_n hx hb dX7_of_21 rfl (lv_at hl 1 rfl) ?_
    refine va_get (D := D) (ci := 4) (v := .ref (ad 1)) (C := RX7) (T := TX7) (N := 9) hx hb hts (fun w h => List.mem_cons_of_mem _ (zinX7 w h)) hown hK.1 hP 0 rfl rfl 0 (by decide) (hts _ (List.mem_cons_of_mem _ zw_12)) (fun _ h9 => h9) rfl dX7_of_22 ?_
    refine va_getN (D := D) (ci := 3) (v := .int (nI (mN m_))) (C := RX6) (T := TX6) (N := 5) hx hb hts (fun w h => List.mem_cons_of_mem _ (zinX6 w h)) hown hK.1 hP 1 rfl rfl 0 (by decide) (zK_nest hK 0 rfl) (fun _ h9 => h9) rfl dX7_of_25 ?_
    refine zcWv (As := [.long (mkT m_ a_), .int (nI (mN m_))]) (rest := []) (wr := [((ad 0), .inr (4, [.ref (ad 1), .ref (ad 3), .ref (ad 18), .ref (ad 25), .ref (ad 27), .ref (ad 28), .int (nI pl_), .int (nI (mU m_)), .int (nI (mX m_))])), ((ad 1), .inr (3, [.int (nI (mN m_)), .long (mP m_), .long (mT m_), .int (nI (mC m_)), .ref (ad 2)])), ((ad 2), .inl (cy 1, 6, .inr (.inl (mM m_))))]) ⟨hx, hb, hml, hown, hts⟩ (c_X1_tell l D cy zs.heap.size (ad 25) (ad 26) c_ (mkT m_ a_) (mN m_) hwx.1 (by omega)) (cwV 2 hts (zG_V zw_302 zw_303 zw_304 zw_20 zw_305) rfl rfl rfl zd_X1_tell ⟨Nat.le_of_ble_eq_true rfl, Nat.le_of_ble_eq_true rfl⟩) hK hP hD hS hA [3, 4] [0, 1, 2] [0, 1, 2, 3, 4] rfl (by decide) rfl (by decide) (by decide) (w2 := (fun uq_ : (Nat → Nat) => ([((ad 0), .inr (4, [.ref (ad 1), .ref (ad 3), .ref (ad 18), .ref (ad 25), .ref (ad 27), .ref (ad 28), .int (nI pl_), .int (nI (mU m_)), .int (nI (mX m_))])), ((ad 1), .inr (3, [.int (nI (mN m_)), .long (mP m_), .long (mT m_), .int (nI (mC m_)), .ref (ad 2)])), ((ad 2), .inl (cy 1, 6, .inr (.inl (mM m_)))), ((ad 25), .inr (0, [.ref (ad 26)])), ((ad 26), .inl (cy 0, 17, .inl (nIf uq_)))] : va_W))) (fun _ => rfl) (by decide) rfl rfl rfl rfl hl.1 rfl (Nat.le_of_ble_eq_true rfl) dX7_of_28 ⟨Nat.zero_le _, Nat.zero_le _⟩ (fun  u28 H locs h28 hP hD hS => ?_)
    obtain ⟨d_28, rfl⟩ : ∃ z_, z_ = u28 := ⟨_, rfl⟩
    have h28 : CntI (mkT m_ a_) (mN m_) d_28 := h28
    have hP : va_P D vwCl [((ad 0), .inr (4, [.ref (ad 1), .ref (ad 3), .ref (ad 18), .ref (ad 25), .ref (ad 27), .ref (ad 28), .int (nI pl_), .int (nI (mU m_)), .int (nI (mX m_))])), ((ad 1), .inr (3, [.int (nI (mN m_)), .long (mP m_), .long (mT m_), .int (nI (mC m_)), .ref (ad 2)])), ((ad 2), .inl (cy 1, 6, .inr (.inl (mM m_)))), ((ad 25), .inr (0, [.ref (ad 26)])), ((ad 26), .inl (cy 0, 17, .inl (nIf d_28)))] H := hP
    have hD : va_D zA [((ad 0), .inr (4, [.ref (ad 1), .ref (ad 3), .ref (ad 18), .ref (ad 25), .ref (ad 27), .ref (ad 28), .int (nI pl_), .int (nI (mU m_)), .int (nI (mX m_))])), ((ad 1), .inr (3, [.int (nI (mN m_)), .long (mP m_), .long (mT m_), .int (nI (mC m_)), .ref (ad 2)])), ((ad 2), .inl (cy 1, 6, .inr (.inl (mM m_)))), ((ad 25), .inr (0, [.ref (ad 26)])), ((ad 26), .inl (cy 0, 17, .inl (nIf d_28)))] := hD
    refine lv_iload_n hx hb dX7_of_31 rfl (lv_at hl 3 rfl) ?_
    have hsw32 : (w_).toInt = (w_).toInt := rfl
    rcases (show (w_).toInt = 0 ∨ (w_).toInt = 1 ∨ (w_).toInt = 2 ∨ (w_).toInt = 3 ∨ (w_).toInt = 4 ∨ (w_).toInt = 5 ∨ (w_).toInt = 6 ∨ ((w_).toInt < 0 ∨ 6 < (w_).toInt) by omega) with c32 | c32 | c32 | c32 | c32 | c32 | c32 | c32
    · refine lv_tableIn (tgt := 76) (off := 44) hx hb dX7_of_32 (by rw [hsw32, c32]; decide) (by rw [hsw32, c32]; decide) (by rw [hsw32, c32]; rfl) (by decide) ?_
      refine lv_aload_n hx hb dX7_of_76 rfl (lv_at hl 1 rfl) ?_
      refine va_get (D := D) (ci := 4) (v := .ref (ad 25)) (C := RX7) (T := TX7) (N := 9) hx hb hts (fun w h => List.mem_cons_of_mem _ (zinX7 w h)) hown hK.1 hP 0 rfl rfl 3 (by decide) (hts _ (List.mem_cons_of_mem _ zw_21)) (fun _ h9 => h9) rfl dX7_of_77 ?_
      refine zcRi (As := []) (rest := []) ⟨hx, hb, hml, hown, hts⟩ (c_X1_order l D cy (ad 25) (ad 26) d_28 (fun q_ hq_ => by rw [h28 q_ hq_]; exact Nat.le_trans (cnt_le _ _ _) hn)) (cwV 0 hts (zG_V zw_312 zw_313 zw_314 zw_20 zw_315) rfl rfl rfl zd_X1_order ⟨Nat.le_of_ble_eq_true rfl, Nat.le_of_ble_eq_true rfl⟩) hK hP [3, 4] rfl rfl rfl rfl rfl hl.1 rfl (Nat.le_of_ble_eq_true rfl) dX7_of_80 ⟨Nat.zero_le _, Nat.zero_le _⟩ (fun r80 h80 => ?_)
      subst h80
      exact kr _ d_28 _ _ _ _ dX7_of_83 (vp_nar_int _) ⟨(by unfold qOf; rw [if_pos c5, if_pos c32, ordF_congr (fun q_ hq_ => h28 q_ hq_)]), trivial⟩ hP hD hS
    · refine lv_tableIn (tgt := 84) (off := 52) hx hb dX7_of_32 (by rw [hsw32, c32]; decide) (by rw [hsw32, c32]; decide) (by rw [hsw32, c32]; rfl) (by decide) ?_
      refine lv_aload_n hx hb dX7_of_84 rfl (lv_at hl 1 rfl) ?_
      refine va_get (D := D) (ci := 4) (v := .ref (ad 25)) (C := RX7) (T := TX7) (N := 9) hx hb hts (fun w h => List.mem_cons_of_mem _ (zinX7 w h)) hown hK.1 hP 0 rfl rfl 3 (by decide) (hts _ (List.mem_cons_of_mem _ zw_21)) (fun _ h9 => h9) rfl dX7_of_85 ?_
      refine zcRi (As := []) (rest := []) ⟨hx, hb, hml, hown, hts⟩ (c_X1_howMany l D cy (ad 25) (ad 26) d_28) (cwV 0 hts (zG_V zw_319 zw_320 zw_321 zw_20 zw_322) rfl rfl rfl zd_X1_howMany ⟨Nat.le_of_ble_eq_true rfl, Nat.le_of_ble_eq_true rfl⟩) hK hP [3, 4] rfl rfl rfl rfl rfl hl.1 rfl (Nat.le_of_ble_eq_true rfl) dX7_of_88 ⟨Nat.zero_le _, Nat.zero_le _⟩ (fun r88 h88 => ?_)
      subst h88
      exact kr _ d_28 _ _ _ _ dX7_of_91 (vp_nar_int _) ⟨(by unfold qOf; rw [if_pos c5, if_neg (by omega), if_pos c32, ← sum_cnt, sm1_congr (fun q_ hq_ => h28 q_ hq_)]), trivial⟩ hP hD hS
    · refine lv_tableIn (tgt := 92) (off := 60) hx hb dX7_of_32 (by rw [hsw32, c32]; decide) (by rw [hsw32, c32]; decide) (by rw [hsw32, c32]; rfl) (by decide) ?_
      refine lv_lload_n hx hb dX7_of_92 rfl (lv_at hl 0 rfl) ?_
      refine lv_aload_n hx hb dX7_of_93 rfl (lv_at hl 1 rfl) ?_
      refine va_get (D := D) (ci := 4) (v := .ref (ad 1)) (C := RX7) (T := TX7) (N := 9) hx hb hts (fun w h => List.mem_cons_of_mem _ (zinX7 w h)) hown hK.1 hP 0 rfl rfl 0 (by decide) (hts _ (List.mem_cons_of_mem _ zw_12)) (fun _ h9 => h9) rfl dX7_of_94 ?_
      refine va_getN (D := D) (ci := 3) (v := .int (nI (mN m_))) (C := RX6) (T := TX6) (N := 5) hx hb hts (fun w h => List.mem_cons_of_mem _ (zinX6 w h)) hown hK.1 hP 1 rfl rfl 0 (by decide) (zK_nest hK 0 rfl) (fun _ h9 => h9) rfl dX7_of_97 ?_
      refine zcSi (As := [.long (mkT m_ a_), .int (nI (mN m_))]) (rest := []) ⟨hx, hb, hml, hown, hts⟩ (c_X3_fixedPlaces l D cy (mkT m_ a_) (mN m_) (by omega)) (va_cwS 2 hts (zG_S zw_117 zw_118 zw_119 zw_120) rfl rfl rfl zd_X3_fixedPlaces ⟨Nat.le_of_ble_eq_true rfl, Nat.le_of_ble_eq_true rfl⟩) hK hP [] rfl rfl hl.1 rfl (Nat.le_of_ble_eq_true rfl) dX7_of_100 ⟨Nat.zero_le _, Nat.zero_le _⟩ (fun r100 h100 => ?_)
      subst h100
      exact kr _ d_28 _ _ _ _ dX7_of_103 (vp_nar_int _) ⟨(by unfold qOf; rw [if_pos c5, if_neg (by omega), if_neg (by omega), if_pos c32]), trivial⟩ hP hD hS
    · refine lv_tableIn (tgt := 104) (off := 72) hx hb dX7_of_32 (by rw [hsw32, c32]; decide) (by rw [hsw32, c32]; decide) (by rw [hsw32, c32]; rfl) (by decide) ?_
      refine lv_aload_n hx hb dX7_of_104 rfl (lv_at hl 1 rfl) ?_
      refine va_get (D := D) (ci := 4) (v := .ref (ad 25)) (C := RX7) (T := TX7) (N := 9) hx hb hts (fun w h => List.mem_cons_of_mem _ (zinX7 w h)) hown hK.1 hP 0 rfl rfl 3 (by decide) (hts _ (List.mem_cons_of_mem _ zw_21)) (fun _ h9 => h9) rfl dX7_of_105 ?_
      refine zcRi (As := []) (rest := []) ⟨hx, hb, hml, hown, hts⟩ (c_X1_longest l D cy (ad 25) (ad 26) d_28 (fun q_ hq_ => by rw [h28 q_ hq_]; exact Nat.le_trans (cnt_le _ _ _) hn)) (cwV 0 hts (zG_V zw_323 zw_324 zw_325 zw_20 zw_326) rfl rfl rfl zd_X1_longest ⟨Nat.le_of_ble_eq_true rfl, Nat.le_of_ble_eq_true rfl⟩) hK hP [3, 4] rfl rfl rfl rfl rfl hl.1 rfl (Nat.le_of_ble_eq_true rfl) dX7_of_108 ⟨Nat.zero_le _, Nat.zero_le _⟩ (fun r108 h108 => ?_)
      subst h108
      exact kr _ d_28 _ _ _ _ dX7_of_111 (vp_nar_int _) ⟨(by unfold qOf; rw [if_pos c5, if_neg (by omega), if_neg (by omega), if_neg (by omega), if_pos c32, lgst_congr (fun q_ hq_ => h28 q_ hq_)]), trivial⟩ hP hD hS
    · refine lv_tableIn (tgt := 112) (off := 80) hx hb dX7_of_32 (by rw [hsw32, c32]; decide) (by rw [hsw32, c32]; decide) (by rw [hsw32, c32]; rfl) (by decide) ?_
      refine lv_aload_n hx hb dX7_of_112 rfl (lv_at hl 1 rfl) ?_
      refine va_get (D := D) (ci := 4) (v := .ref (ad 1)) (C := RX7) (T := TX7) (N := 9) hx hb hts (fun w h => List.mem_cons_of_mem _ (zinX7 w h)) hown hK.1 hP 0 rfl rfl 0 (by decide) (hts _ (List.mem_cons_of_mem _ zw_12)) (fun _ h9 => h9) rfl dX7_of_113 ?_
      refine va_getN (D := D) (ci := 3) (v := .int (nI (mN m_))) (C := RX6) (T := TX6) (N := 5) hx hb hts (fun w h => List.mem_cons_of_mem _ (zinX6 w h)) hown hK.1 hP 1 rfl rfl 0 (by decide) (zK_nest hK 0 rfl) (fun _ h9 => h9) rfl dX7_of_116 ?_
      refine lv_aload_n hx hb dX7_of_119 rfl (lv_at hl 1 rfl) ?_
      refine va_get (D := D) (ci := 4) (v := .ref (ad 25)) (C := RX7) (T := TX7) (N := 9) hx hb hts (fun w h => List.mem_cons_of_mem _ (zinX7 w h)) hown hK.1 hP 0 rfl rfl 3 (by decide) (hts _ (List.mem_cons_of_mem _ zw_21)) (fun _ h9 => h9) rfl dX7_of_120 ?_
      refine zcRi (As := []) (rest := [.int (nI (mN m_))]) ⟨hx, hb, hml, hown, hts⟩ (c_X1_howMany l D cy (ad 25) (ad 26) d_28) (cwV 0 hts (zG_V zw_319 zw_320 zw_321 zw_20 zw_322) rfl rfl rfl zd_X1_howMany ⟨Nat.le_of_ble_eq_true rfl, Nat.le_of_ble_eq_true rfl⟩) hK hP [3, 4] rfl rfl rfl rfl rfl hl.1 rfl (Nat.le_of_ble_eq_true rfl) dX7_of_123 ⟨Nat.zero_le _, Nat.zero_le _⟩ (fun r123 h123 => ?_)
      subst h123
      have hh126 : sm1 d_28 17 = howN (mkT m_ a_) (mN m_) := (sm1_congr (fun q_ hq_ => h28 q_ hq_)).trans (sum_cnt _ _)
      have hl126 : howN (mkT m_ a_) (mN m_) ≤ mN m_ := fb_ct_le _ _
      refine zi_top (v := nI (howN (mkT m_ a_) (mN m_))) (congrArg nI hh126) ?_
      refine zi_sub (v := nI ((mN m_) - (howN (mkT m_ a_) (mN m_)))) hx hb dX7_of_126 (pk_sub (by omega)) ?_
      refine lv_iconst (v := nI 2) hx hb dX7_of_127 (by decide) ?_
      refine zi_rem (v := nI (((mN m_) - (howN (mkT m_ a_) (mN m_))) % 2)) hx hb dX7_of_128 (nI_ne0 (by omega) (by omega)) (pk_rem (by omega) (by omega) (by omega)) ?_
      refine zb0_ne (a := ((mN m_) - (howN (mkT m_ a_) (mN m_))) % 2) (tgt := 136) hx hb dX7_of_129 (by decide) (by omega) (fun c129 => ?_) (fun c129 => ?_)
      · skip
        refine lv_iconst (v := nI 0) hx hb dX7_of_136 (by decide) ?_
        exact kr _ d_28 _ _ _ _ dX7_of_137 (vp_nar_int _) ⟨(by unfold qOf; rw [if_pos c5, if_neg (by omega), if_neg (by omega), if_neg (by omega), if_neg (by omega), if_pos c32, if_neg c129]), trivial⟩ hP hD hS
      · skip
        refine lv_iconst (v := nI 2) hx hb dX7_of_132 (by decide) ?_
        refine lv_goto (tgt := 137) hx hb dX7_of_133 (by decide) ?_
        exact kr _ d_28 _ _ _ _ dX7_of_137 (vp_nar_int _) ⟨(by unfold qOf; rw [if_pos c5, if_neg (by omega), if_neg (by omega), if_neg (by omega), if_neg (by omega), if_pos c32, if_pos c129]), trivial⟩ hP hD hS
    · refine lv_tableIn (tgt := 138) (off := 106) hx hb dX7_of_32 (by rw [hsw32, c32]; decide) (by rw [hsw32, c32]; decide) (by rw [hsw32, c32]; rfl) (by decide) ?_
      refine lv_aload_n hx hb dX7_of_138 rfl (lv_at hl 1 rfl) ?_
      refine lv_lload_n hx hb dX7_of_139 rfl (lv_at hl 0 rfl) ?_
      refine zcRi (As := [.long (mkT m_ a_)]) (rest := []) ⟨hx, hb, hml, hown, hts⟩ (c_X7_cutsThatStay l D cy ad m_ pl_ (mkT m_ a_) (by omega) hwx) (cwV 1 hts (zG_V zw_327 zw_328 zw_329 zw_2 zw_330) rfl rfl rfl zd_X7_cutsThatStay ⟨Nat.le_of_ble_eq_true rfl, Nat.le_of_ble_eq_true rfl⟩) hK hP [0, 1] rfl rfl rfl rfl rfl hl.1 rfl (Nat.le_of_ble_eq_true rfl) dX7_of_140 ⟨Nat.zero_le _, Nat.zero_le _⟩ (fun r140 h140 => ?_)
      subst h140
      exact kr _ d_28 _ _ _ _ dX7_of_143 (vp_nar_int _) ⟨(by unfold qOf; rw [if_pos c5, if_neg (by omega), if_neg (by omega), if_neg (by omega), if_neg (by omega), if_neg (by omega), if_pos c32]), trivial⟩ hP hD hS
    · refine lv_tableIn (tgt := 144) (off := 112) hx hb dX7_of_32 (by rw [hsw32, c32]; decide) (by rw [hsw32, c32]; decide) (by rw [hsw32, c32]; rfl) (by decide) ?_
      refine lv_aload_n hx hb dX7_of_144 rfl (lv_at hl 1 rfl) ?_
      refine va_get (D := D) (ci := 4) (v := .ref (ad 1)) (C := RX7) (T := TX7) (N := 9) hx hb hts (fun w h => List.mem_cons_of_mem _ (zinX7 w h)) hown hK.1 hP 0 rfl rfl 0 (by decide) (hts _ (List.mem_cons_of_mem _ zw_12)) (fun _ h9 => h9) rfl dX7_of_145 ?_
      refine lv_lload_n hx hb dX7_of_148 rfl (lv_at hl 0 rfl) ?_
      refine zcSl (As := [.long (mkT m_ a_)]) (rest := [.ref (ad 1)]) ⟨hx, hb, hml, hown, hts⟩ (c_X3_inverse l D cy (mkT m_ a_) hwx.1) (va_cwS 1 hts (zG_S zw_335 zw_336 zw_119 zw_337) rfl rfl rfl zd_X3_inverse ⟨Nat.le_of_ble_eq_true rfl, Nat.le_of_ble_eq_true rfl⟩) hK hP [] rfl rfl hl.1 rfl (Nat.le_of_ble_eq_true rfl) dX7_of_149 ⟨Nat.zero_le _, Nat.zero_le _⟩ (fun r149 h149 => ?_)
      subst h149
      refine zcRi (As := [.long (invL (mkT m_ a_))]) (rest := []) ⟨hx, hb, hml, hown, hts⟩ (c_X6_lowestMark l D cy (ad 1) (ad 2) (mN m_) (mP m_) (mT m_) (mC m_) (mM m_) (invL (mkT m_ a_)) (by omega)) (cwV 1 hts (zG_V zw_338 zw_339 zw_340 zw_11 zw_341) rfl rfl rfl zd_X6_lowestMark ⟨Nat.le_of_ble_eq_true rfl, Nat.le_of_ble_eq_true rfl⟩) hK hP [1, 2] rfl rfl rfl rfl rfl hl.1 rfl (Nat.le_of_ble_eq_true rfl) dX7_of_152 ⟨Nat.zero_le _, Nat.zero_le _⟩ (fun r152 h152 => ?_)
      subst h152
      exact kr _ d_28 _ _ _ _ dX7_of_155 (vp_nar_int _) ⟨(by unfold qOf; rw [if_pos c5, if_neg (by omega), if_neg (by omega), if_neg (by omega), if_neg (by omega), if_neg (by omega), if_neg (by omega), if_pos c32]), trivial⟩ hP hD hS
    · refine lv_tableOut (tgt := 156) hx hb dX7_of_32 (by rw [hsw32]; exact c32) (by decide) ?_
      refine lv_bipush (v := (-2)) hx hb dX7_of_156 (by decide) ?_
      exact kr _ d_28 _ _ _ _ dX7_of_158 (vp_nar_int _) ⟨(by unfold qOf; rw [if_pos c5, if_neg (by omega), if_neg (by omega), if_neg (by omega), if_neg (by omega), if_neg (by omega), if_neg (by omega), if_neg (by omega)]), trivial⟩ hP hD hS
  · skip
    refine lv_iconst (v := (-1)) hx hb dX7_of_8 (by decide) ?_
    exact kr _ c_ _ _ _ _ dX7_of_9 (vp_nar_int _) ⟨(by unfold qOf; rw [if_neg c5]), trivial⟩ hP hD hS
abbrev w_X7_commuting : List Cond := Cond.code yX7_commuting cX7_commuting 2 (some .long) :: zAll
abbrev r_X7_commuting : Room := { frames := 3, cells := 0, slots := 0, locals := 74 }
theorem zd_X7_commuting : yX7_commuting.cls = RX7 ∧ yX7_commuting.cls ≠ "java/lang/invoke/MethodHandle" ∧ yX7_commuting.cls ≠ "java/lang/invoke/VarHandle" ∧ (parseMethodDescriptor yX7_commuting.desc).map (fun d => d.parameters.length) = some 1 := by decide +kernel
set_option maxHeartbeats 4000000 in
set_option maxRecDepth 100000 in
theorem c_X7_commuting (l : Launch) (D : va_G) (cy : Nat → ClassId) (sz : Nat) (ad : Nat → Nat) (m_ : MT) (pl_ : Nat) (c_ : Nat → Nat) (a_ : Int32) (hw : TVok m_.1) : zWl l yX7_commuting w_X7_commuting r_X7_commuting D cy [((ad 0), .inr (4, [.ref (ad 1), .ref (ad 3), .ref (ad 18), .ref (ad 25), .ref (ad 27), .ref (ad 28), .int (nI pl_), .int (nI (mU m_)), .int (nI (mX m_))])), ((ad 1), .inr (3, [.int (nI (mN m_)), .long (mP m_), .long (mT m_), .int (nI (mC m_)), .ref (ad 2)])), ((ad 2), .inl (cy 1, 6, .inr (.inl (mM m_)))), ((ad 25), .inr (0, [.ref (ad 26)])), ((ad 26), .inl (cy 0, 17, .inl (nIf c_)))] sz [.ref (ad 0), .int a_] (fun (r_ : Int64) (u : (Nat → Nat)) => r_ = (qCommuting m_ a_) ∧ True) (fun u : (Nat → Nat) => ([((ad 0), .inr (4, [.ref (ad 1), .ref (ad 3), .ref (ad 18), .ref (ad 25), .ref (ad 27), .ref (ad 28), .int (nI pl_), .int (nI (mU m_)), .int (nI (mX m_))])), ((ad 1), .inr (3, [.int (nI (mN m_)), .long (mP m_), .long (mT m_), .int (nI (mC m_)), .ref (ad 2)])), ((ad 2), .inl (cy 1, 6, .inr (.inl (mM m_)))), ((ad 25), .inr (0, [.ref (ad 26)])), ((ad 26), .inl (cy 0, 17, .inl (nIf u)))] : va_W)) := by
  refine zOfWl (cc := cX7_commuting) (maxL := 2) (by decide) rfl (Nat.le_of_ble_eq_true rfl) ?_
  intro zp ze zs zm za zb zme zc hx hb hml hts hown hP hK zA hD hA Q kr ls hl
  have hS : va_S zA zs.heap zs.heap [] := va_S.rf
  have hown : zs.vm.findClass RX7 = some zm.cls := hown
  have hl : lv_has ls 2 [(0, .ref (ad 0)), (1, .int a_)] := hl
  have hn2 := ok_2 hw
  have hn := ok_n hw
  have hC6 := ok_C hw
  have hwP := ok_P hw
  have hwT := ok_T hw
  refine lv_aload_n hx hb dX7_commuting_0 rfl (lv_at hl 0 rfl) ?_
  refine lv_iload_n hx hb dX7_commuting_1 rfl (lv_at hl 1 rfl) ?_
  refine zcRi (As := [.int a_]) (rest := []) ⟨hx, hb, hml, hown, hts⟩ (c_X7_isMarkOrTrick l D cy ad m_ pl_ a_ (by omega)) (cwV 1 hts (zG_V zw_150 zw_151 zw_152 zw_2 zw_153) rfl rfl rfl zd_X7_isMarkOrTrick ⟨Nat.le_of_ble_eq_true rfl, Nat.le_of_ble_eq_true rfl⟩) hK hP [0, 1] rfl rfl rfl rfl rfl hl.1 rfl (Nat.le_of_ble_eq_true rfl) dX7_commuting_2 ⟨Nat.zero_le _, Nat.zero_le _⟩ (fun r2 h2 => ?_)
  subst h2
  refine zq_ne (tgt := 12) hx hb dX7_commuting_5 (by decide) (fun c5 => ?_) (fun c5 => ?_)
  · skip
    refine lv_aload_n hx hb dX7_commuting_12 rfl (lv_at hl 0 rfl) ?_
    refine va_get (D := D) (ci := 4) (v := .ref (ad 25)) (C := RX7) (T := TX7) (N := 9) hx hb hts (fun w h => List.mem_cons_of_mem _ (zinX7 w h)) hown hK.1 hP 0 rfl rfl 3 (by decide) (hts _ (List.mem_cons_of_mem _ zw_21)) (fun _ h9 => h9) rfl dX7_commuting_13 ?_
    refine lv_aload_n hx hb dX7_commuting_16 rfl (lv_at hl 0 rfl) ?_
    refine lv_iload_n hx hb dX7_commuting_17 rfl (lv_at hl 1 rfl) ?_
    refine zcRl (As := [.int a_]) (rest := [.ref (ad 25)]) ⟨hx, hb, hml, hown, hts⟩ (c_X7_markOrTrick l D cy ad m_ pl_ a_ (by omega) c5) (cwV 1 hts (zG_V zw_161 zw_162 zw_163 zw_2 zw_164) rfl rfl rfl zd_X7_markOrTrick ⟨Nat.le_of_ble_eq_true rfl, Nat.le_of_ble_eq_true rfl⟩) hK hP [0, 1, 2] rfl rfl rfl rfl rfl hl.1 rfl (Nat.le_of_ble_eq_true rfl) dX7_commuting_18 ⟨Nat.zero_le _, Nat.zero_le _⟩ (fun r18 h18 => ?_)
    subst h18
    refine lv_aload_n hx hb dX7_commuting_21 rfl (lv_at hl 0 rfl) ?_
    refine va_get (D := D) (ci := 4) (v := .ref (ad 1)) (C := RX7) (T := TX7) (N := 9) hx hb hts (fun w h => List.mem_cons_of_mem _ (zinX7 w h)) hown hK.1 hP 0 rfl rfl 0 (by decide) (hts _ (List.mem_cons_of_mem _ zw_12)) (fun _ h9 => h9) rfl dX7_commuting_22 ?_
    refine va_getN (D := D) (ci := 3) (v := .int (nI (mN m_))) (C := RX6) (T := TX6) (N := 5) hx hb hts (fun w h => List.mem_cons_of_mem _ (zinX6 w h)) hown hK.1 hP 1 rfl rfl 0 (by decide) (zK_nest hK 0 rfl) (fun _ h9 => h9) rfl dX7_commuting_25 ?_
    refine zcWv (As := [.long (mkT m_ a_), .int (nI (mN m_))]) (rest := []) (wr := [((ad 0), .inr (4, [.ref (ad 1), .ref (ad 3), .ref (ad 18), .ref (ad 25), .ref (ad 27), .ref (ad 28), .int (nI pl_), .int (nI (mU m_)), .int (nI (mX m_))])), ((ad 1), .inr (3, [.int (nI (mN m_)), .long (mP m_), .long (mT m_), .int (nI (mC m_)), .ref (ad 2)])), ((ad 2), .inl (cy 1, 6, .inr (.inl (mM m_))))]) ⟨hx, hb, hml, hown, hts⟩ (c_X1_tell l D cy zs.heap.size (ad 25) (ad 26) c_ (mkT m_ a_) (mN m_) (mkT_WF hw c5).1 (by omega)) (cwV 2 hts (zG_V zw_302 zw_303 zw_304 zw_20 zw_305) rfl rfl rfl zd_X1_tell ⟨Nat.le_of_ble_eq_true rfl, Nat.le_of_ble_eq_true rfl⟩) hK hP hD hS hA [3, 4] [0, 1, 2] [0, 1, 2, 3, 4] rfl (by decide) rfl (by decide) (by decide) (w2 := (fun uq_ : (Nat → Nat) => ([((ad 0), .inr (4, [.ref (ad 1), .ref (ad 3), .ref (ad 18), .ref (ad 25), .ref (ad 27), .ref (ad 28), .int (nI pl_), .int (nI (mU m_)), .int (nI (mX m_))])), ((ad 1), .inr (3, [.int (nI (mN m_)), .long (mP m_), .long (mT m_), .int (nI (mC m_)), .ref (ad 2)])), ((ad 2), .inl (cy 1, 6, .inr (.inl (mM m_)))), ((ad 25), .inr (0, [.ref (ad 26)])), ((ad 26), .inl (cy 0, 17, .inl (nIf uq_)))] : va_W))) (fun _ => rfl) (by decide) rfl rfl rfl rfl hl.1 rfl (Nat.le_of_ble_eq_true rfl) dX7_commuting_28 ⟨Nat.zero_le _, Nat.zero_le _⟩ (fun  u28 H locs h28 hP hD hS => ?_)
    obtain ⟨d_28, rfl⟩ : ∃ z_, z_ = u28 := ⟨_, rfl⟩
    have h28 : CntI (mkT m_ a_) (mN m_) d_28 := h28
    have hP : va_P D vwCl [((ad 0), .inr (4, [.ref (ad 1), .ref (ad 3), .ref (ad 18), .ref (ad 25), .ref (ad 27), .ref (ad 28), .int (nI pl_), .int (nI (mU m_)), .int (nI (mX m_))])), ((ad 1), .inr (3, [.int (nI (mN m_)), .long (mP m_), .long (mT m_), .int (nI (mC m_)), .ref (ad 2)])), ((ad 2), .inl (cy 1, 6, .inr (.inl (mM m_)))), ((ad 25), .inr (0, [.ref (ad 26)])), ((ad 26), .inl (cy 0, 17, .inl (nIf d_28)))] H := hP
    have hD : va_D zA [((ad 0), .inr (4, [.ref (ad 1), .ref (ad 3), .ref (ad 18), .ref (ad 25), .ref (ad 27), .ref (ad 28), .int (nI pl_), .int (nI (mU m_)), .int (nI (mX m_))])), ((ad 1), .inr (3, [.int (nI (mN m_)), .long (mP m_), .long (mT m_), .int (nI (mC m_)), .ref (ad 2)])), ((ad 2), .inl (cy 1, 6, .inr (.inl (mM m_)))), ((ad 25), .inr (0, [.ref (ad 26)])), ((ad 26), .inl (cy 0, 17, .inl (nIf d_28)))] := hD
    refine lv_aload_n hx hb dX7_commuting_31 rfl (lv_at hl 0 rfl) ?_
    refine va_get (D := D) (ci := 4) (v := .ref (ad 25)) (C := RX7) (T := TX7) (N := 9) hx hb hts (fun w h => List.mem_cons_of_mem _ (zinX7 w h)) hown hK.1 hP 0 rfl rfl 3 (by decide) (hts _ (List.mem_cons_of_mem _ zw_21)) (fun _ h9 => h9) rfl dX7_commuting_32 ?_
    refine zcRl (As := []) (rest := []) ⟨hx, hb, hml, hown, hts⟩ (c_X1_marksThatCommute l D cy (ad 25) (ad 26) d_28 (fun q_ hq_ => by rw [h28 q_ hq_]; exact Nat.le_trans (cnt_le _ _ _) hn)) (cwV 0 hts (zG_V zw_356 zw_357 zw_358 zw_20 zw_359) rfl rfl rfl zd_X1_marksThatCommute ⟨Nat.le_of_ble_eq_true rfl, Nat.le_of_ble_eq_true rfl⟩) hK hP [3, 4] rfl rfl rfl rfl rfl hl.1 rfl (Nat.le_of_ble_eq_true rfl) dX7_commuting_35 ⟨Nat.zero_le _, Nat.zero_le _⟩ (fun r35 h35 => ?_)
    subst h35
    exact kr _ d_28 _ _ _ _ dX7_commuting_38 ⟨(by unfold qCommuting; rw [if_pos c5, coutL_congr (fun q_ hq_ => h28 q_ hq_)]), trivial⟩ hP hD hS
  · skip
    refine lv_ldc2 hx hb hown (hts _ (List.mem_cons_of_mem _ zw_355)) dX7_commuting_8 ?_
    exact kr _ c_ _ _ _ _ dX7_commuting_11 ⟨(by unfold qCommuting; rw [if_neg c5]), trivial⟩ hP hD hS
abbrev w_X7_spread : List Cond := Cond.code yX7_spread cX7_spread 5 (some .long) :: zAll
abbrev r_X7_spread : Room := { frames := 2, cells := 0, slots := 0, locals := 45 }
theorem zd_X7_spread : yX7_spread.cls = RX7 ∧ yX7_spread.cls ≠ "java/lang/invoke/MethodHandle" ∧ yX7_spread.cls ≠ "java/lang/invoke/VarHandle" ∧ (parseMethodDescriptor yX7_spread.desc).map (fun d => d.parameters.length) = some 0 := by decide +kernel
set_option maxHeartbeats 4000000 in
set_option maxRecDepth 100000 in
theorem c_X7_spread (l : Launch) (D : va_G) (cy : Nat → ClassId) (ad : Nat → Nat) (m_ : MT) (pl_ : Nat) (hw : TVok m_.1) : zMl l yX7_spread w_X7_spread r_X7_spread D cy [((ad 0), .inr (4, [.ref (ad 1), .ref (ad 3), .ref (ad 18), .ref (ad 25), .ref (ad 27), .ref (ad 28), .int (nI pl_), .int (nI (mU m_)), .int (nI (mX m_))])), ((ad 1), .inr (3, [.int (nI (mN m_)), .long (mP m_), .long (mT m_), .int (nI (mC m_)), .ref (ad 2)]))] [.ref (ad 0)] (fun r_ => r_ = (qSpread m_)) := by
  refine zOfRl (cc := cX7_spread) (maxL := 5) (by decide) rfl (Nat.le_of_ble_eq_true rfl) ?_
  intro zp ze zs zm za zb zme zc hx hb hml hts hown hP hK Q kr ls hl
  have hown : zs.vm.findClass RX7 = some zm.cls := hown
  have hl : lv_has ls 5 [(0, .ref (ad 0))] := hl
  have hn2 := ok_2 hw
  have hn := ok_n hw
  have hC6 := ok_C hw
  have hwP := ok_P hw
  have hwT := ok_T hw
  have ht := tabD_v hn2 hn (spN_le hwP hn (mN m_) (Nat.le_refl _))
  refine lv_dconst0 hx hb dX7_spread_0 ?_
  refine zd_top (v := FP.i2d (nI (spN (mP m_) 0))) i2d_0 ?_
  refine lv_dstore_n (lv' := [(1, .double (FP.i2d (nI (spN (mP m_) 0)))), (0, .ref (ad 0))]) hx hb dX7_spread_1 rfl hl (by decide) rfl (fun ls hl => ?_)
  refine lv_iconst (v := nI 0) hx hb dX7_spread_2 (by decide) ?_
  refine lv_istore_n (lv' := [(3, .int (nI 0)), (1, .double (FP.i2d (nI (spN (mP m_) 0)))), (0, .ref (ad 0))]) hx hb dX7_spread_3 rfl hl (by decide) rfl (fun ls hl => ?_)
  have L4 : ∀ (kf_ : Nat) (i_ : Nat) (hi : i_ ≤ mN m_), mN m_ - i_ < kf_ → ∀ ls : Array Slot, lv_has ls 5 [(0, .ref (ad 0)), (1, .double (FP.i2d (nI (spN (mP m_) i_)))), (3, .int (nI i_))] → W zp l ze r_X7_spread zs zm za zb zme zc zs.heap [] 0 0 Q (F0 zm 4 ls []) := by
    intro kf_
    induction kf_ with
    | zero => intro i_ hi hk_; exact absurd hk_ (Nat.not_lt_zero _)
    | succ kf_ ih4 =>
      intro i_ hi hk_ ls hl
      refine lv_iload_n hx hb dX7_spread_4 rfl (lv_at hl 2 rfl) ?_
      refine lv_aload_n hx hb dX7_spread_5 rfl (lv_at hl 0 rfl) ?_
      refine va_get (D := D) (ci := 4) (v := .ref (ad 1)) (C := RX7) (T := TX7) (N := 9) hx hb hts (fun w h => List.mem_cons_of_mem _ (zinX7 w h)) hown hK.1 hP 0 rfl rfl 0 (by decide) (hts _ (List.mem_cons_of_mem _ zw_12)) (fun _ h9 => h9) rfl dX7_spread_6 ?_
      refine va_getN (D := D) (ci := 3) (v := .int (nI (mN m_))) (C := RX6) (T := TX6) (N := 5) hx hb hts (fun w h => List.mem_cons_of_mem _ (zinX6 w h)) hown hK.1 hP 1 rfl rfl 0 (by decide) (zK_nest hK 0 rfl) (fun _ h9 => h9) rfl dX7_spread_9 ?_
      refine zb_ge (a := i_) (b := mN m_) (tgt := 53) hx hb dX7_spread_12 (by decide) (by omega) (by omega) (fun c12 => ?_) (fun c12 => ?_)
      · skip
        have ei_ : i_ = mN m_ := by omega
        rw [ei_] at hl
        refine lv_aload_n hx hb dX7_spread_53 rfl (lv_at hl 0 rfl) ?_
        refine va_get (D := D) (ci := 4) (v := .ref (ad 1)) (C := RX7) (T := TX7) (N := 9) hx hb hts (fun w h => List.mem_cons_of_mem _ (zinX7 w h)) hown hK.1 hP 0 rfl rfl 0 (by decide) (hts _ (List.mem_cons_of_mem _ zw_12)) (fun _ h9 => h9) rfl dX7_spread_54 ?_
        refine va_getN (D := D) (ci := 3) (v := .int (nI (mN m_))) (C := RX6) (T := TX6) (N := 5) hx hb hts (fun w h => List.mem_cons_of_mem _ (zinX6 w h)) hown hK.1 hP 1 rfl rfl 0 (by decide) (zK_nest hK 0 rfl) (fun _ h9 => h9) rfl dX7_spread_57 ?_
        refine zb0_le (a := mN m_) (tgt := 76) hx hb dX7_spread_60 (by decide) (by omega) (fun hd_ => absurd hd_ (by omega)) (fun c60 => ?_)
        refine lv_dload_n hx hb dX7_spread_63 rfl (lv_at hl 1 rfl) ?_
        refine lv_aload_n hx hb dX7_spread_64 rfl (lv_at hl 0 rfl) ?_
        refine va_get (D := D) (ci := 4) (v := .ref (ad 1)) (C := RX7) (T := TX7) (N := 9) hx hb hts (fun w h => List.mem_cons_of_mem _ (zinX7 w h)) hown hK.1 hP 0 rfl rfl 0 (by decide) (hts _ (List.mem_cons_of_mem _ zw_12)) (fun _ h9 => h9) rfl dX7_spread_65 ?_
        refine va_getN (D := D) (ci := 3) (v := .int (nI (mN m_))) (C := RX6) (T := TX6) (N := 5) hx hb hts (fun w h => List.mem_cons_of_mem _ (zinX6 w h)) hown hK.1 hP 1 rfl rfl 0 (by decide) (zK_nest hK 0 rfl) (fun _ h9 => h9) rfl dX7_spread_68 ?_
        refine lv_i2d hx hb dX7_spread_71 ?_
        refine lv_ddiv hx hb dX7_spread_72 ht.1 ?_
        refine lv_goto (tgt := 77) hx hb dX7_spread_73 (by decide) ?_
        refine zcSl (As := [.double (FP.ddiv (FP.i2d (nI (spN (mP m_) (mN m_)))) (FP.i2d (nI (mN m_))))]) (rest := []) ⟨hx, hb, hml, hown, hts⟩ (c_X0_ofDouble l D cy (FP.ddiv (FP.i2d (nI (spN (mP m_) (mN m_)))) (FP.i2d (nI (mN m_)))) ((FP.ddiv (FP.i2d (nI (spN (mP m_) (mN m_)))) (FP.i2d (nI (mN m_)))).toInt64) ht.2.2) (va_cwS 1 hts (zG_S zw_192 zw_193 zw_185 zw_194) rfl rfl rfl zd_X0_ofDouble ⟨Nat.le_of_ble_eq_true rfl, Nat.le_of_ble_eq_true rfl⟩) hK hP [] rfl rfl hl.1 rfl (Nat.le_of_ble_eq_true rfl) dX7_spread_77 ⟨Nat.zero_le _, Nat.zero_le _⟩ (fun r77 h77 => ?_)
        subst h77
        exact kr _ _ _ dX7_spread_80 rfl
      · skip
        refine lv_aload_n hx hb dX7_spread_15 rfl (lv_at hl 0 rfl) ?_
        refine va_get (D := D) (ci := 4) (v := .ref (ad 1)) (C := RX7) (T := TX7) (N := 9) hx hb hts (fun w h => List.mem_cons_of_mem _ (zinX7 w h)) hown hK.1 hP 0 rfl rfl 0 (by decide) (hts _ (List.mem_cons_of_mem _ zw_12)) (fun _ h9 => h9) rfl dX7_spread_16 ?_
        refine va_getN (D := D) (ci := 3) (v := .long (mP m_)) (C := RX6) (T := TX6) (N := 5) hx hb hts (fun w h => List.mem_cons_of_mem _ (zinX6 w h)) hown hK.1 hP 1 rfl rfl 1 (by decide) (zK_nest hK 1 rfl) (fun _ h9 => h9) rfl dX7_spread_19 ?_
        refine lv_iload_n hx hb dX7_spread_22 rfl (lv_at hl 2 rfl) ?_
        refine zcSi (As := [.long (mP m_), .int (nI i_)]) (rest := []) ⟨hx, hb, hml, hown, hts⟩ (c_X3_from l D cy (mP m_) i_ (by omega)) (va_cwS 2 hts (zG_S zw_143 zw_144 zw_119 zw_145) rfl rfl rfl zd_X3_from ⟨Nat.le_of_ble_eq_true rfl, Nat.le_of_ble_eq_true rfl⟩) hK hP [] rfl rfl hl.1 rfl (Nat.le_of_ble_eq_true rfl) dX7_spread_23 ⟨Nat.zero_le _, Nat.zero_le _⟩ (fun r23 h23 => ?_)
        subst h23
        have hf26 := fr_lt (mP m_) i_
        have hd26 : dif (fr (mP m_) i_) i_ < 16 := dif_lt hf26 (by omega)
        refine lv_iload_n hx hb dX7_spread_26 rfl (lv_at hl 2 rfl) ?_
        refine zi_sub (v := nI (fr (mP m_) i_) - nI i_) hx hb dX7_spread_27 rfl ?_
        refine lv_istore (lv' := [(4, .int (nI (fr (mP m_) i_) - nI i_)), (0, .ref (ad 0)), (1, .double (FP.i2d (nI (spN (mP m_) i_)))), (3, .int (nI i_))]) hx hb dX7_spread_28 hl (by decide) rfl (fun ls hl => ?_)
        refine lv_dload_n hx hb dX7_spread_30 rfl (lv_at hl 2 rfl) ?_
        refine lv_iload hx hb dX7_spread_31 (lv_at hl 0 rfl) ?_
        refine zt0_ge (a := ((fr (mP m_) i_ : Nat) : Int) - ((i_ : Nat) : Int)) (tgt := 42) hx hb dX7_spread_33 (by decide) (pk_sub_toInt (by omega) (by omega)) (fun c33 => ?_) (fun c33 => ?_)
        · skip
          refine lv_iload hx hb dX7_spread_42 (lv_at hl 0 rfl) ?_
          refine zi_top (v := nI (dif (fr (mP m_) i_) i_)) (difB (by omega)) ?_
          refine lv_i2d hx hb dX7_spread_44 ?_
          refine lv_dadd hx hb dX7_spread_45 (sumT_v (spN_lt hwP hn (by omega)) hd26).1 ?_
          refine zd_top (v := FP.i2d (nI (spN (mP m_) (i_ + 1)))) ((sumT_v (spN_lt hwP hn (by omega)) hd26).2.trans (congrArg (fun z_ => FP.i2d (nI z_)) (spN_s _ _))) ?_
          refine lv_dstore_n (lv' := [(1, .double (FP.i2d (nI (spN (mP m_) (i_ + 1))))), (4, .int (nI (fr (mP m_) i_) - nI i_)), (0, .ref (ad 0)), (3, .int (nI i_))]) hx hb dX7_spread_46 rfl hl (by decide) rfl (fun ls hl => ?_)
          refine lv_iinc (v := nI (i_ + 1)) (lv' := [(3, .int (nI (i_ + 1))), (1, .double (FP.i2d (nI (spN (mP m_) (i_ + 1))))), (4, .int (nI (fr (mP m_) i_) - nI i_)), (0, .ref (ad 0))]) hx hb dX7_spread_47 hl (k := 3) rfl (nI_1 _) (by decide) rfl (fun ls hl => ?_)
          refine lv_goto (tgt := 4) hx hb dX7_spread_50 (by decide) ?_
          exact ih4 (i_ + 1) (by omega) (by omega) _ (lv_sub hl [3, 1, 0] rfl)
        · skip
          refine lv_iload hx hb dX7_spread_36 (lv_at hl 0 rfl) ?_
          refine zi_neg (v := nI (dif (fr (mP m_) i_) i_)) hx hb dX7_spread_38 (difA (by omega) (by omega)) ?_
          refine lv_goto (tgt := 44) hx hb dX7_spread_39 (by decide) ?_
          refine lv_i2d hx hb dX7_spread_44 ?_
          refine lv_dadd hx hb dX7_spread_45 (sumT_v (spN_lt hwP hn (by omega)) hd26).1 ?_
          refine zd_top (v := FP.i2d (nI (spN (mP m_) (i_ + 1)))) ((sumT_v (spN_lt hwP hn (by omega)) hd26).2.trans (congrArg (fun z_ => FP.i2d (nI z_)) (spN_s _ _))) ?_
          refine lv_dstore_n (lv' := [(1, .double (FP.i2d (nI (spN (mP m_) (i_ + 1))))), (4, .int (nI (fr (mP m_) i_) - nI i_)), (0, .ref (ad 0)), (3, .int (nI i_))]) hx hb dX7_spread_46 rfl hl (by decide) rfl (fun ls hl => ?_)
          refine lv_iinc (v := nI (i_ + 1)) (lv' := [(3, .int (nI (i_ + 1))), (1, .double (FP.i2d (nI (spN (mP m_) (i_ + 1))))), (4, .int (nI (fr (mP m_) i_) - nI i_)), (0, .ref (ad 0))]) hx hb dX7_spread_47 hl (k := 3) rfl (nI_1 _) (by decide) rfl (fun ls hl => ?_)
          refine lv_goto (tgt := 4) hx hb dX7_spread_50 (by decide) ?_
          exact ih4 (i_ + 1) (by omega) (by omega) _ (lv_sub hl [3, 1, 0] rfl)
  exact L4 (mN m_ - 0 + 1) 0 (by omega) (Nat.lt_succ_self _) _ (lv_sub hl [2, 1, 0] rfl)
abbrev w_X7_share : List Cond := Cond.code yX7_share cX7_share 2 (some .int) :: zAll
abbrev r_X7_share : Room := { frames := 2, cells := 0, slots := 0, locals := 46 }
theorem zd_X7_share : yX7_share.cls = RX7 ∧ yX7_share.cls ≠ "java/lang/invoke/MethodHandle" ∧ yX7_share.cls ≠ "java/lang/invoke/VarHandle" ∧ (parseMethodDescriptor yX7_share.desc).map (fun d => d.parameters.length) = some 0 := by decide +kernel
set_option maxHeartbeats 4000000 in
set_option maxRecDepth 100000 in
theorem c_X7_share (l : Launch) (D : va_G) (cy : Nat → ClassId) (ad : Nat → Nat) (m_ : MT) (pl_ : Nat) (hw : TVok m_.1) : zMi l yX7_share w_X7_share r_X7_share D cy [((ad 0), .inr (4, [.ref (ad 1), .ref (ad 3), .ref (ad 18), .ref (ad 25), .ref (ad 27), .ref (ad 28), .int (nI pl_), .int (nI (mU m_)), .int (nI (mX m_))])), ((ad 1), .inr (3, [.int (nI (mN m_)), .long (mP m_), .long (mT m_), .int (nI (mC m_)), .ref (ad 2)]))] [.ref (ad 0)] (fun r_ => r_ = (qShare m_)) := by
  refine zOfR (cc := cX7_share) (maxL := 2) (ty := .int) (by decide) rfl (Nat.le_of_ble_eq_true rfl) ?_
  intro zp ze zs zm za zb zme zc hx hb hml hts hown hP hK Q kr ls hl
  have hown : zs.vm.findClass RX7 = some zm.cls := hown
  have hl : lv_has ls 2 [(0, .ref (ad 0))] := hl
  have hn2 := ok_2 hw
  have hn := ok_n hw
  have hC6 := ok_C hw
  have hwP := ok_P hw
  have hwT := ok_T hw
  have ht := tabF_v hn2 hn (pop_fix_le (mP m_) hn)
  refine lv_aload_n hx hb dX7_share_0 rfl (lv_at hl 0 rfl) ?_
  refine va_get (D := D) (ci := 4) (v := .ref (ad 1)) (C := RX7) (T := TX7) (N := 9) hx hb hts (fun w h => List.mem_cons_of_mem _ (zinX7 w h)) hown hK.1 hP 0 rfl rfl 0 (by decide) (hts _ (List.mem_cons_of_mem _ zw_12)) (fun _ h9 => h9) rfl dX7_share_1 ?_
  refine va_getN (D := D) (ci := 3) (v := .long (mP m_)) (C := RX6) (T := TX6) (N := 5) hx hb hts (fun w h => List.mem_cons_of_mem _ (zinX6 w h)) hown hK.1 hP 1 rfl rfl 1 (by decide) (zK_nest hK 1 rfl) (fun _ h9 => h9) rfl dX7_share_4 ?_
  refine lv_aload_n hx hb dX7_share_7 rfl (lv_at hl 0 rfl) ?_
  refine va_get (D := D) (ci := 4) (v := .ref (ad 1)) (C := RX7) (T := TX7) (N := 9) hx hb hts (fun w h => List.mem_cons_of_mem _ (zinX7 w h)) hown hK.1 hP 0 rfl rfl 0 (by decide) (hts _ (List.mem_cons_of_mem _ zw_12)) (fun _ h9 => h9) rfl dX7_share_8 ?_
  refine va_getN (D := D) (ci := 3) (v := .int (nI (mN m_))) (C := RX6) (T := TX6) (N := 5) hx hb hts (fun w h => List.mem_cons_of_mem _ (zinX6 w h)) hown hK.1 hP 1 rfl rfl 0 (by decide) (zK_nest hK 0 rfl) (fun _ h9 => h9) rfl dX7_share_11 ?_
  refine zcSi (As := [.long (mP m_), .int (nI (mN m_))]) (rest := []) ⟨hx, hb, hml, hown, hts⟩ (c_X3_fixedPlaces l D cy (mP m_) (mN m_) (by omega)) (va_cwS 2 hts (zG_S zw_117 zw_118 zw_119 zw_120) rfl rfl rfl zd_X3_fixedPlaces ⟨Nat.le_of_ble_eq_true rfl, Nat.le_of_ble_eq_true rfl⟩) hK hP [] rfl rfl hl.1 rfl (Nat.le_of_ble_eq_true rfl) dX7_share_14 ⟨Nat.zero_le _, Nat.zero_le _⟩ (fun r14 h14 => ?_)
  subst h14
  refine zcSi (As := [.int (nI (fixM (mP m_) (mN m_)))]) (rest := []) ⟨hx, hb, hml, hown, hts⟩ (c_J6_bitCount_0f7a4 l D cy (fixM (mP m_) (mN m_)) (fixM_lt _ hn)) (va_cwS 1 hts (zG_S zw_128 zw_129 zw_130 zw_131) rfl rfl rfl zd_J6_bitCount_0f7a4 ⟨Nat.le_of_ble_eq_true rfl, Nat.le_of_ble_eq_true rfl⟩) hK hP [] rfl rfl hl.1 rfl (Nat.le_of_ble_eq_true rfl) dX7_share_17 ⟨Nat.zero_le _, Nat.zero_le _⟩ (fun r17 h17 => ?_)
  subst h17
  refine lv_istore_n (lv' := [(1, .int (nI (popN (fixM (mP m_) (mN m_))))), (0, .ref (ad 0))]) hx hb dX7_share_20 rfl hl (by decide) rfl (fun ls hl => ?_)
  refine lv_aload_n hx hb dX7_share_21 rfl (lv_at hl 1 rfl) ?_
  refine va_get (D := D) (ci := 4) (v := .ref (ad 1)) (C := RX7) (T := TX7) (N := 9) hx hb hts (fun w h => List.mem_cons_of_mem _ (zinX7 w h)) hown hK.1 hP 0 rfl rfl 0 (by decide) (hts _ (List.mem_cons_of_mem _ zw_12)) (fun _ h9 => h9) rfl dX7_share_22 ?_
  refine va_getN (D := D) (ci := 3) (v := .int (nI (mN m_))) (C := RX6) (T := TX6) (N := 5) hx hb hts (fun w h => List.mem_cons_of_mem _ (zinX6 w h)) hown hK.1 hP 1 rfl rfl 0 (by decide) (zK_nest hK 0 rfl) (fun _ h9 => h9) rfl dX7_share_25 ?_
  refine zb0_le (a := mN m_) (tgt := 45) hx hb dX7_share_28 (by decide) (by omega) (fun hd_ => absurd hd_ (by omega)) (fun c28 => ?_)
  refine lv_iload_n hx hb dX7_share_31 rfl (lv_at hl 0 rfl) ?_
  refine lv_i2f hx hb dX7_share_32 ?_
  refine lv_aload_n hx hb dX7_share_33 rfl (lv_at hl 1 rfl) ?_
  refine va_get (D := D) (ci := 4) (v := .ref (ad 1)) (C := RX7) (T := TX7) (N := 9) hx hb hts (fun w h => List.mem_cons_of_mem _ (zinX7 w h)) hown hK.1 hP 0 rfl rfl 0 (by decide) (hts _ (List.mem_cons_of_mem _ zw_12)) (fun _ h9 => h9) rfl dX7_share_34 ?_
  refine va_getN (D := D) (ci := 3) (v := .int (nI (mN m_))) (C := RX6) (T := TX6) (N := 5) hx hb hts (fun w h => List.mem_cons_of_mem _ (zinX6 w h)) hown hK.1 hP 1 rfl rfl 0 (by decide) (zK_nest hK 0 rfl) (fun _ h9 => h9) rfl dX7_share_37 ?_
  refine lv_i2f hx hb dX7_share_40 ?_
  refine lv_fdiv hx hb dX7_share_41 ht.1 ?_
  refine lv_goto (tgt := 46) hx hb dX7_share_42 (by decide) ?_
  refine zcSi (As := [.float (FP.fdiv (FP.i2f (nI (popN (fixM (mP m_) (mN m_))))) (FP.i2f (nI (mN m_))))]) (rest := []) ⟨hx, hb, hml, hown, hts⟩ (c_X0_ofShare l D cy (FP.fdiv (FP.i2f (nI (popN (fixM (mP m_) (mN m_))))) (FP.i2f (nI (mN m_)))) ((FP.fdiv (FP.i2f (nI (popN (fixM (mP m_) (mN m_))))) (FP.i2f (nI (mN m_)))).toInt32) ht.2.2) (va_cwS 1 hts (zG_S zw_183 zw_184 zw_185 zw_186) rfl rfl rfl zd_X0_ofShare ⟨Nat.le_of_ble_eq_true rfl, Nat.le_of_ble_eq_true rfl⟩) hK hP [] rfl rfl hl.1 rfl (Nat.le_of_ble_eq_true rfl) dX7_share_46 ⟨Nat.zero_le _, Nat.zero_le _⟩ (fun r46 h46 => ?_)
  subst h46
  exact kr _ _ _ dX7_share_49 (vp_nar_int _) rfl

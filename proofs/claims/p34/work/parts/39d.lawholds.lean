abbrev w_L_holds : List Cond := Cond.code yL_holds cL_holds 13 (some .boolean) :: zAll
abbrev r_L_holds : Room := { frames := 4, cells := 0, slots := 0, locals := 99 }
theorem zd_L_holds : yL_holds.cls ≠ "java/lang/invoke/MethodHandle" ∧ yL_holds.cls ≠ "java/lang/invoke/VarHandle" ∧ (parseMethodDescriptor yL_holds.desc).map (fun d => d.parameters.length) = some 2 := by decide +kernel
set_option maxHeartbeats 4000000 in
set_option maxRecDepth 100000 in
theorem c_L_holds (l : Launch) (D : va_G) (cy : Nat → ClassId) (sz : Nat) (ad : Nat → Nat) (m_ : MT) (pl_ : Nat) (c_ : Nat → Nat) (w_ : Int32) (hw : TVok m_.1) : zWi l yL_holds w_L_holds r_L_holds D cy [((ad 0), .inr (4, [.ref (ad 1), .ref (ad 3), .ref (ad 18), .ref (ad 25), .ref (ad 27), .ref (ad 28), .int (nI pl_), .int (nI (mU m_)), .int (nI (mX m_))])), ((ad 1), .inr (3, [.int (nI (mN m_)), .long (mP m_), .long (mT m_), .int (nI (mC m_)), .ref (ad 2)])), ((ad 2), .inl (cy 1, 6, .inr (.inl (mM m_)))), ((ad 25), .inr (0, [.ref (ad 26)])), ((ad 26), .inl (cy 0, 17, .inl (nIf c_)))] sz [.ref (ad 0), .int w_] (fun (r_ : Int32) (u : (Nat → Nat)) => r_ = (nI 1) ∧ True) (fun u : (Nat → Nat) => ([((ad 0), .inr (4, [.ref (ad 1), .ref (ad 3), .ref (ad 18), .ref (ad 25), .ref (ad 27), .ref (ad 28), .int (nI pl_), .int (nI (mU m_)), .int (nI (mX m_))])), ((ad 1), .inr (3, [.int (nI (mN m_)), .long (mP m_), .long (mT m_), .int (nI (mC m_)), .ref (ad 2)])), ((ad 2), .inl (cy 1, 6, .inr (.inl (mM m_)))), ((ad 25), .inr (0, [.ref (ad 26)])), ((ad 26), .inl (cy 0, 17, .inl (nIf u)))] : va_W)) := by
  refine zOfW (cc := cL_holds) (maxL := 13) (ty := .boolean) (by decide) rfl (Nat.le_of_ble_eq_true rfl) ?_
  intro zp ze zs zm za zb zme zc hx hb hml hts hown hP hK zA hD hA Q kr ls hl
  have hS : va_S zA zs.heap zs.heap [] := va_S.rf
  have hown : zs.vm.findClass RL = some zm.cls := hown
  have hl : lv_has ls 13 [(0, .ref (ad 0)), (1, .int w_)] := hl
  have hn2 := ok_2 hw
  have hn := ok_n hw
  have hC6 := ok_C hw
  have hwP := ok_P hw
  have hwT := ok_T hw
  refine lv_aload_n hx hb dL_holds_0 rfl (lv_at hl 0 rfl) ?_
  refine lv_iconst (v := nI 0) hx hb dL_holds_1 (by decide) ?_
  refine zcRi (As := [.int (nI 0)]) (rest := []) ⟨hx, hb, hml, hown, hts⟩ (c_X7_count l D cy ad m_ pl_ (nI 0) (by omega)) (cwV 1 hts (zG_V zw_112 zw_113 zw_114 zw_2 zw_115) rfl rfl rfl zd_X7_count ⟨Nat.le_of_ble_eq_true rfl, Nat.le_of_ble_eq_true rfl⟩) hK hP [0, 1] rfl rfl rfl rfl rfl hl.1 rfl (Nat.le_of_ble_eq_true rfl) dL_holds_2 ⟨Nat.zero_le _, Nat.zero_le _⟩ (fun r2 h2 => ?_)
  subst h2
  refine zi_top (v := nI (mN m_)) (qC0 _ _) ?_
  refine lv_istore_n (lv' := [(2, .int (nI (mN m_))), (0, .ref (ad 0)), (1, .int w_)]) hx hb dL_holds_5 rfl hl (by decide) rfl (fun ls hl => ?_)
  refine lv_iconst (v := nI 0) hx hb dL_holds_6 (by decide) ?_
  refine zi_top (v := nI (crd (mP m_) 0)) rfl ?_
  refine lv_istore_n (lv' := [(3, .int (nI (crd (mP m_) 0))), (2, .int (nI (mN m_))), (0, .ref (ad 0)), (1, .int w_)]) hx hb dL_holds_7 rfl hl (by decide) rfl (fun ls hl => ?_)
  refine lv_aload_n hx hb dL_holds_8 rfl (lv_at hl 2 rfl) ?_
  refine lv_iconst (v := nI 1) hx hb dL_holds_9 (by decide) ?_
  refine zcRi (As := [.int (nI 1)]) (rest := []) ⟨hx, hb, hml, hown, hts⟩ (c_X7_count l D cy ad m_ pl_ (nI 1) (by omega)) (cwV 1 hts (zG_V zw_112 zw_113 zw_114 zw_2 zw_115) rfl rfl rfl zd_X7_count ⟨Nat.le_of_ble_eq_true rfl, Nat.le_of_ble_eq_true rfl⟩) hK hP [0, 1] rfl rfl rfl rfl rfl hl.1 rfl (Nat.le_of_ble_eq_true rfl) dL_holds_10 ⟨Nat.zero_le _, Nat.zero_le _⟩ (fun r10 h10 => ?_)
  subst h10
  refine zi_top (v := nI (mC m_)) (qC1 _ _) ?_
  refine lv_istore (lv' := [(4, .int (nI (mC m_))), (3, .int (nI (crd (mP m_) 0))), (2, .int (nI (mN m_))), (0, .ref (ad 0)), (1, .int w_)]) hx hb dL_holds_13 hl (by decide) rfl (fun ls hl => ?_)
  refine lv_iconst (v := nI 0) hx hb dL_holds_15 (by decide) ?_
  refine lv_istore (lv' := [(5, .int (nI 0)), (4, .int (nI (mC m_))), (3, .int (nI (crd (mP m_) 0))), (2, .int (nI (mN m_))), (0, .ref (ad 0)), (1, .int w_)]) hx hb dL_holds_16 hl (by decide) rfl (fun ls hl => ?_)
  have L18 : ∀ (kf_ : Nat) (i_ : Nat) (hi : i_ ≤ mN m_), mN m_ - i_ < kf_ → ∀ (H : Heap) (locs : List Loc), va_P D vwCl [((ad 0), .inr (4, [.ref (ad 1), .ref (ad 3), .ref (ad 18), .ref (ad 25), .ref (ad 27), .ref (ad 28), .int (nI pl_), .int (nI (mU m_)), .int (nI (mX m_))])), ((ad 1), .inr (3, [.int (nI (mN m_)), .long (mP m_), .long (mT m_), .int (nI (mC m_)), .ref (ad 2)])), ((ad 2), .inl (cy 1, 6, .inr (.inl (mM m_)))), ((ad 25), .inr (0, [.ref (ad 26)])), ((ad 26), .inl (cy 0, 17, .inl (nIf c_)))] H → va_D zA [((ad 0), .inr (4, [.ref (ad 1), .ref (ad 3), .ref (ad 18), .ref (ad 25), .ref (ad 27), .ref (ad 28), .int (nI pl_), .int (nI (mU m_)), .int (nI (mX m_))])), ((ad 1), .inr (3, [.int (nI (mN m_)), .long (mP m_), .long (mT m_), .int (nI (mC m_)), .ref (ad 2)])), ((ad 2), .inl (cy 1, 6, .inr (.inl (mM m_)))), ((ad 25), .inr (0, [.ref (ad 26)])), ((ad 26), .inl (cy 0, 17, .inl (nIf c_)))] → va_S zA zs.heap H locs → ∀ ls : Array Slot, lv_has ls 13 [(0, .ref (ad 0)), (1, .int w_), (2, .int (nI (mN m_))), (3, .int (nI (crd (mP m_) i_))), (4, .int (nI (mC m_))), (5, .int (nI i_))] → W zp l ze r_L_holds zs zm za zb zme zc H locs 0 0 Q (F0 zm 18 ls []) := by
    intro kf_
    induction kf_ with
    | zero => intro i_ hi hk_; exact absurd hk_ (Nat.not_lt_zero _)
    | succ kf_ ih18 =>
      intro i_ hi hk_ H locs hP hD hS ls hl
      refine lv_iload hx hb dL_holds_18 (lv_at hl 5 rfl) ?_
      refine lv_iload_n hx hb dL_holds_20 rfl (lv_at hl 2 rfl) ?_
      refine zb_ge (a := i_) (b := mN m_) (tgt := 41) hx hb dL_holds_21 (by decide) (by omega) (by omega) (fun c21 => ?_) (fun c21 => ?_)
      · skip
        have ei_ : i_ = mN m_ := by omega
        obtain ⟨Z_, hZ_⟩ : ∃ z_, z_ = 2 ^ mN m_ - 1 := ⟨_, rfl⟩
        have hZ16 : Z_ < 65536 := by have q_ := pow_16 hn; rw [hZ_]; omega
        have hcr : crd (mP m_) (mN m_) = Z_ := by rw [hZ_]; exact crd_all hwP hn
        rw [ei_, hcr] at hl
        refine lv_iload_n hx hb dL_holds_41 rfl (lv_at hl 1 rfl) ?_
        refine lv_bipush (v := nI 41) hx hb dL_holds_42 (by decide) ?_
        refine zcSi (As := [.int w_, .int (nI 41)]) (rest := []) ⟨hx, hb, hml, hown, hts⟩ (c_L_low l D cy w_ 41 (by omega) (by omega)) (va_cwS 2 hts (zG_S zw_200 zw_201 zw_105 zw_202) rfl rfl rfl zd_L_low ⟨Nat.le_of_ble_eq_true rfl, Nat.le_of_ble_eq_true rfl⟩) hK hP [] rfl rfl hl.1 rfl (Nat.le_of_ble_eq_true rfl) dL_holds_44 ⟨Nat.zero_le _, Nat.zero_le _⟩ (fun r44 h44 => ?_)
        subst h44
        refine lv_bipush (v := nI 20) hx hb dL_holds_47 (by decide) ?_
        refine zi_sub (v := nI (loN w_ 41) - nI 20) hx hb dL_holds_49 rfl ?_
        obtain ⟨by_, hby_⟩ : ∃ z_, z_ = nI (loN w_ 41) - nI 20 := ⟨_, rfl⟩
        have hb_ := by_rng hby_
        have hneg_ := by_neg hb_
        refine zi_top (v := by_) hby_.symm ?_
        refine lv_istore (lv' := [(5, .int by_), (0, .ref (ad 0)), (1, .int w_), (2, .int (nI (mN m_))), (3, .int (nI Z_)), (4, .int (nI (mC m_)))]) hx hb dL_holds_50 hl (by decide) rfl (fun ls hl => ?_)
        refine lv_iconst (v := (-1)) hx hb dL_holds_52 (by decide) ?_
        refine zi_top (v := kI 0) (by decide) ?_
        refine lv_istore (lv' := [(6, .int (kI 0)), (5, .int by_), (0, .ref (ad 0)), (1, .int w_), (2, .int (nI (mN m_))), (3, .int (nI Z_)), (4, .int (nI (mC m_)))]) hx hb dL_holds_53 hl (by decide) rfl (fun ls hl => ?_)
        have L55 : ∀ (kf_ : Nat) (g_ : Nat) (e_ : Nat → Nat) (hg : g_ ≤ mC m_ + 1), mC m_ + 1 - g_ < kf_ → ∀ (H : Heap) (locs : List Loc), va_P D vwCl [((ad 0), .inr (4, [.ref (ad 1), .ref (ad 3), .ref (ad 18), .ref (ad 25), .ref (ad 27), .ref (ad 28), .int (nI pl_), .int (nI (mU m_)), .int (nI (mX m_))])), ((ad 1), .inr (3, [.int (nI (mN m_)), .long (mP m_), .long (mT m_), .int (nI (mC m_)), .ref (ad 2)])), ((ad 2), .inl (cy 1, 6, .inr (.inl (mM m_)))), ((ad 25), .inr (0, [.ref (ad 26)])), ((ad 26), .inl (cy 0, 17, .inl (nIf e_)))] H → va_D zA [((ad 0), .inr (4, [.ref (ad 1), .ref (ad 3), .ref (ad 18), .ref (ad 25), .ref (ad 27), .ref (ad 28), .int (nI pl_), .int (nI (mU m_)), .int (nI (mX m_))])), ((ad 1), .inr (3, [.int (nI (mN m_)), .long (mP m_), .long (mT m_), .int (nI (mC m_)), .ref (ad 2)])), ((ad 2), .inl (cy 1, 6, .inr (.inl (mM m_)))), ((ad 25), .inr (0, [.ref (ad 26)])), ((ad 26), .inl (cy 0, 17, .inl (nIf e_)))] → va_S zA zs.heap H locs → ∀ ls : Array Slot, lv_has ls 13 [(0, .ref (ad 0)), (1, .int w_), (2, .int (nI (mN m_))), (3, .int (nI Z_)), (4, .int (nI (mC m_))), (5, .int by_), (6, .int (kI g_))] → W zp l ze r_L_holds zs zm za zb zme zc H locs 0 0 Q (F0 zm 55 ls []) := by
          intro kf_
          induction kf_ with
          | zero => intro g_ e_ hg hk_; exact absurd hk_ (Nat.not_lt_zero _)
          | succ kf_ ih55 =>
            intro g_ e_ hg hk_ H locs hP hD hS ls hl
            refine lv_iload hx hb dL_holds_55 (lv_at hl 6 rfl) ?_
            refine lv_iload hx hb dL_holds_57 (lv_at hl 4 rfl) ?_
            refine zt_ge (a := ((g_ : Nat) : Int) - 1) (b := ((mC m_ : Nat) : Int)) (tgt := 375) hx hb dL_holds_59 (by decide) (kI_t (by omega)) (nI_toInt (by omega)) (fun c59 => ?_) (fun c59 => ?_)
            · skip
              have hfa : fixM (mP m_) (mN m_) = Z_ ↔ mP m_ = stayL := by rw [hZ_]; exact fix_all hwP hn
              have hsp0 := qSpread_0 hw
              have hsh0 := qShare_1 hw
              by_cases hst : mP m_ = stayL
              · have hfx := hfa.mpr hst
                have hsp := hsp0.mpr hst
                have hsh := hsh0.mpr hst
                refine lv_aload_n hx hb dL_holds_375 rfl (lv_at hl 0 rfl) ?_
                refine lv_iconst (v := nI 3) hx hb dL_holds_376 (by decide) ?_
                refine zcRi (As := [.int (nI 3)]) (rest := []) ⟨hx, hb, hml, hown, hts⟩ (c_X7_count l D cy ad m_ pl_ (nI 3) (by omega)) (cwV 1 hts (zG_V zw_112 zw_113 zw_114 zw_2 zw_115) rfl rfl rfl zd_X7_count ⟨Nat.le_of_ble_eq_true rfl, Nat.le_of_ble_eq_true rfl⟩) hK hP [0, 1] rfl rfl rfl rfl rfl hl.1 rfl (Nat.le_of_ble_eq_true rfl) dL_holds_377 ⟨Nat.zero_le _, Nat.zero_le _⟩ (fun r377 h377 => ?_)
                subst h377
                refine zi_top (v := nI 1) ((qC3 _ _).trans (if_pos hst)) ?_
                refine lv_iconst (v := nI 1) hx hb dL_holds_380 (by decide) ?_
                refine zb_ne (a := 1) (b := 1) (tgt := 388) hx hb dL_holds_381 (by decide) (by decide) (by decide) (fun hd_ => absurd hd_ (by decide)) (fun c381 => ?_)
                refine lv_iconst (v := nI 1) hx hb dL_holds_384 (by decide) ?_
                refine lv_goto (tgt := 389) hx hb dL_holds_385 (by decide) ?_
                refine lv_istore (lv' := [(6, .int (nI 1)), (0, .ref (ad 0)), (1, .int w_), (2, .int (nI (mN m_))), (3, .int (nI Z_)), (4, .int (nI (mC m_))), (5, .int by_)]) hx hb dL_holds_389 hl (by decide) rfl (fun ls hl => ?_)
                refine lv_iload_n hx hb dL_holds_391 rfl (lv_at hl 4 rfl) ?_
                refine lv_iconst (v := nI 1) hx hb dL_holds_392 (by decide) ?_
                refine lv_iload_n hx hb dL_holds_393 rfl (lv_at hl 3 rfl) ?_
                refine zi_shl (v := nI (2 ^ (mN m_))) hx hb dL_holds_394 (zz_shl1 (by omega)) ?_
                refine lv_iconst (v := nI 1) hx hb dL_holds_395 (by decide) ?_
                refine zi_sub (v := nI Z_) hx hb dL_holds_396 ((pk_sub Nat.one_le_two_pow).trans (congrArg nI hZ_.symm)) ?_
                refine zb_ne (a := Z_) (b := Z_) (tgt := 461) hx hb dL_holds_397 (by decide) (by omega) (by omega) (fun hd_ => absurd hd_ (by omega)) (fun c397 => ?_)
                refine lv_iload hx hb dL_holds_400 (lv_at hl 0 rfl) ?_
                refine lv_aload_n hx hb dL_holds_402 rfl (lv_at hl 1 rfl) ?_
                refine lv_iconst (v := nI 2) hx hb dL_holds_403 (by decide) ?_
                refine zcRi (As := [.int (nI 2)]) (rest := [.int (nI 1)]) ⟨hx, hb, hml, hown, hts⟩ (c_X7_count l D cy ad m_ pl_ (nI 2) (by omega)) (cwV 1 hts (zG_V zw_112 zw_113 zw_114 zw_2 zw_115) rfl rfl rfl zd_X7_count ⟨Nat.le_of_ble_eq_true rfl, Nat.le_of_ble_eq_true rfl⟩) hK hP [0, 1] rfl rfl rfl rfl rfl hl.1 rfl (Nat.le_of_ble_eq_true rfl) dL_holds_404 ⟨Nat.zero_le _, Nat.zero_le _⟩ (fun r404 h404 => ?_)
                subst h404
                refine zi_top (v := nI Z_) ((qC2 _ _).trans (congrArg nI hfx)) ?_
                refine lv_iload_n hx hb dL_holds_407 rfl (lv_at hl 4 rfl) ?_
                refine zb_ne (a := Z_) (b := Z_) (tgt := 415) hx hb dL_holds_408 (by decide) (by omega) (by omega) (fun hd_ => absurd hd_ (by omega)) (fun c408 => ?_)
                refine lv_iconst (v := nI 1) hx hb dL_holds_411 (by decide) ?_
                refine lv_goto (tgt := 416) hx hb dL_holds_412 (by decide) ?_
                refine zb_ne (a := 1) (b := 1) (tgt := 461) hx hb dL_holds_416 (by decide) (by decide) (by decide) (fun hd_ => absurd hd_ (by decide)) (fun c416 => ?_)
                refine lv_iload hx hb dL_holds_419 (lv_at hl 0 rfl) ?_
                refine lv_aload_n hx hb dL_holds_421 rfl (lv_at hl 1 rfl) ?_
                refine zcRl (As := []) (rest := [.int (nI 1)]) ⟨hx, hb, hml, hown, hts⟩ (c_X7_spread l D cy ad m_ pl_ (by omega)) (cwV 0 hts (zG_V zw_188 zw_189 zw_190 zw_2 zw_191) rfl rfl rfl zd_X7_spread ⟨Nat.le_of_ble_eq_true rfl, Nat.le_of_ble_eq_true rfl⟩) hK hP [0, 1] rfl rfl rfl rfl rfl hl.1 rfl (Nat.le_of_ble_eq_true rfl) dL_holds_422 ⟨Nat.zero_le _, Nat.zero_le _⟩ (fun r422 h422 => ?_)
                subst h422
                refine lv_lconst (v := lN 0) hx hb dL_holds_425 rfl ?_
                refine W.lcmp hx hb dL_holds_426 ?_
                refine zc_ne (tgt := 434) hx hb dL_holds_427 (by decide) (fun hd_ => absurd hd_ (fun q_ => q_ hsp)) (fun c427 => ?_)
                refine lv_iconst (v := nI 1) hx hb dL_holds_430 (by decide) ?_
                refine lv_goto (tgt := 435) hx hb dL_holds_431 (by decide) ?_
                refine zb_ne (a := 1) (b := 1) (tgt := 461) hx hb dL_holds_435 (by decide) (by decide) (by decide) (fun hd_ => absurd hd_ (by decide)) (fun c435 => ?_)
                refine lv_iload hx hb dL_holds_438 (lv_at hl 0 rfl) ?_
                refine lv_aload_n hx hb dL_holds_440 rfl (lv_at hl 1 rfl) ?_
                refine zcRi (As := []) (rest := [.int (nI 1)]) ⟨hx, hb, hml, hown, hts⟩ (c_X7_share l D cy ad m_ pl_ (by omega)) (cwV 0 hts (zG_V zw_179 zw_180 zw_181 zw_2 zw_182) rfl rfl rfl zd_X7_share ⟨Nat.le_of_ble_eq_true rfl, Nat.le_of_ble_eq_true rfl⟩) hK hP [0, 1] rfl rfl rfl rfl rfl hl.1 rfl (Nat.le_of_ble_eq_true rfl) dL_holds_441 ⟨Nat.zero_le _, Nat.zero_le _⟩ (fun r441 h441 => ?_)
                subst h441
                refine zi_top (v := (1065353216 : Int32)) hsh ?_
                refine lv_ldc hx hb hown (hts _ (List.mem_cons_of_mem _ zw_297)) dL_holds_444 ?_
                refine zt_ne (a := ((1065353216 : Int32)).toInt) (b := ((1065353216 : Int32)).toInt) (tgt := 453) hx hb dL_holds_446 (by decide) rfl rfl (fun hd_ => absurd hd_ (by omega)) (fun c446 => ?_)
                refine lv_iconst (v := nI 1) hx hb dL_holds_449 (by decide) ?_
                refine lv_goto (tgt := 454) hx hb dL_holds_450 (by decide) ?_
                refine zb_ne (a := 1) (b := 1) (tgt := 461) hx hb dL_holds_454 (by decide) (by decide) (by decide) (fun hd_ => absurd hd_ (by decide)) (fun c454 => ?_)
                refine lv_iconst (v := nI 1) hx hb dL_holds_457 (by decide) ?_
                refine lv_goto (tgt := 462) hx hb dL_holds_458 (by decide) ?_
                exact kr _ e_ _ _ _ _ dL_holds_462 rfl ⟨rfl, trivial⟩ hP hD hS
              · obtain ⟨F_, hF_⟩ : ∃ z_, z_ = fixM (mP m_) (mN m_) := ⟨_, rfl⟩
                have hFn : F_ ≠ Z_ := fun q_ => hst (hfa.mp (by rw [← hF_]; exact q_))
                have hF16 : F_ < 65536 := by rw [hF_]; exact fixM_lt _ hn
                have hsp : ¬ qSpread m_ = lN 0 := fun q_ => hst (hsp0.mp q_)
                have hsh : ¬ qShare m_ = (1065353216 : Int32) := fun q_ => hst (hsh0.mp q_)
                refine lv_aload_n hx hb dL_holds_375 rfl (lv_at hl 0 rfl) ?_
                refine lv_iconst (v := nI 3) hx hb dL_holds_376 (by decide) ?_
                refine zcRi (As := [.int (nI 3)]) (rest := []) ⟨hx, hb, hml, hown, hts⟩ (c_X7_count l D cy ad m_ pl_ (nI 3) (by omega)) (cwV 1 hts (zG_V zw_112 zw_113 zw_114 zw_2 zw_115) rfl rfl rfl zd_X7_count ⟨Nat.le_of_ble_eq_true rfl, Nat.le_of_ble_eq_true rfl⟩) hK hP [0, 1] rfl rfl rfl rfl rfl hl.1 rfl (Nat.le_of_ble_eq_true rfl) dL_holds_377 ⟨Nat.zero_le _, Nat.zero_le _⟩ (fun r377 h377 => ?_)
                subst h377
                refine zi_top (v := nI 0) ((qC3 _ _).trans (if_neg hst)) ?_
                refine lv_iconst (v := nI 1) hx hb dL_holds_380 (by decide) ?_
                refine zb_ne (a := 0) (b := 1) (tgt := 388) hx hb dL_holds_381 (by decide) (by decide) (by decide) (fun c381 => ?_) (fun hd_ => absurd hd_ (by decide))
                refine lv_iconst (v := nI 0) hx hb dL_holds_388 (by decide) ?_
                refine lv_istore (lv' := [(6, .int (nI 0)), (0, .ref (ad 0)), (1, .int w_), (2, .int (nI (mN m_))), (3, .int (nI Z_)), (4, .int (nI (mC m_))), (5, .int by_)]) hx hb dL_holds_389 hl (by decide) rfl (fun ls hl => ?_)
                refine lv_iload_n hx hb dL_holds_391 rfl (lv_at hl 4 rfl) ?_
                refine lv_iconst (v := nI 1) hx hb dL_holds_392 (by decide) ?_
                refine lv_iload_n hx hb dL_holds_393 rfl (lv_at hl 3 rfl) ?_
                refine zi_shl (v := nI (2 ^ (mN m_))) hx hb dL_holds_394 (zz_shl1 (by omega)) ?_
                refine lv_iconst (v := nI 1) hx hb dL_holds_395 (by decide) ?_
                refine zi_sub (v := nI Z_) hx hb dL_holds_396 ((pk_sub Nat.one_le_two_pow).trans (congrArg nI hZ_.symm)) ?_
                refine zb_ne (a := Z_) (b := Z_) (tgt := 461) hx hb dL_holds_397 (by decide) (by omega) (by omega) (fun hd_ => absurd hd_ (by omega)) (fun c397 => ?_)
                refine lv_iload hx hb dL_holds_400 (lv_at hl 0 rfl) ?_
                refine lv_aload_n hx hb dL_holds_402 rfl (lv_at hl 1 rfl) ?_
                refine lv_iconst (v := nI 2) hx hb dL_holds_403 (by decide) ?_
                refine zcRi (As := [.int (nI 2)]) (rest := [.int (nI 0)]) ⟨hx, hb, hml, hown, hts⟩ (c_X7_count l D cy ad m_ pl_ (nI 2) (by omega)) (cwV 1 hts (zG_V zw_112 zw_113 zw_114 zw_2 zw_115) rfl rfl rfl zd_X7_count ⟨Nat.le_of_ble_eq_true rfl, Nat.le_of_ble_eq_true rfl⟩) hK hP [0, 1] rfl rfl rfl rfl rfl hl.1 rfl (Nat.le_of_ble_eq_true rfl) dL_holds_404 ⟨Nat.zero_le _, Nat.zero_le _⟩ (fun r404 h404 => ?_)
                subst h404
                refine zi_top (v := nI F_) ((qC2 _ _).trans (congrArg nI hF_.symm)) ?_
                refine lv_iload_n hx hb dL_holds_407 rfl (lv_at hl 4 rfl) ?_
                refine zb_ne (a := F_) (b := Z_) (tgt := 415) hx hb dL_holds_408 (by decide) (by omega) (by omega) (fun c408 => ?_) (fun hd_ => absurd hd_ (by omega))
                refine lv_iconst (v := nI 0) hx hb dL_holds_415 (by decide) ?_
                refine zb_ne (a := 0) (b := 0) (tgt := 461) hx hb dL_holds_416 (by decide) (by decide) (by decide) (fun hd_ => absurd hd_ (by decide)) (fun c416 => ?_)
                refine lv_iload hx hb dL_holds_419 (lv_at hl 0 rfl) ?_
                refine lv_aload_n hx hb dL_holds_421 rfl (lv_at hl 1 rfl) ?_
                refine zcRl (As := []) (rest := [.int (nI 0)]) ⟨hx, hb, hml, hown, hts⟩ (c_X7_spread l D cy ad m_ pl_ (by omega)) (cwV 0 hts (zG_V zw_188 zw_189 zw_190 zw_2 zw_191) rfl rfl rfl zd_X7_spread ⟨Nat.le_of_ble_eq_true rfl, Nat.le_of_ble_eq_true rfl⟩) hK hP [0, 1] rfl rfl rfl rfl rfl hl.1 rfl (Nat.le_of_ble_eq_true rfl) dL_holds_422 ⟨Nat.zero_le _, Nat.zero_le _⟩ (fun r422 h422 => ?_)
                subst h422
                refine lv_lconst (v := lN 0) hx hb dL_holds_425 rfl ?_
                refine W.lcmp hx hb dL_holds_426 ?_
                refine zc_ne (tgt := 434) hx hb dL_holds_427 (by decide) (fun c427 => ?_) (fun hd_ => absurd hd_ hsp)
                refine lv_iconst (v := nI 0) hx hb dL_holds_434 (by decide) ?_
                refine zb_ne (a := 0) (b := 0) (tgt := 461) hx hb dL_holds_435 (by decide) (by decide) (by decide) (fun hd_ => absurd hd_ (by decide)) (fun c435 => ?_)
                refine lv_iload hx hb dL_holds_438 (lv_at hl 0 rfl) ?_
                refine lv_aload_n hx hb dL_holds_440 rfl (lv_at hl 1 rfl) ?_
                refine zcRi (As := []) (rest := [.int (nI 0)]) ⟨hx, hb, hml, hown, hts⟩ (c_X7_share l D cy ad m_ pl_ (by omega)) (cwV 0 hts (zG_V zw_179 zw_180 zw_181 zw_2 zw_182) rfl rfl rfl zd_X7_share ⟨Nat.le_of_ble_eq_true rfl, Nat.le_of_ble_eq_true rfl⟩) hK hP [0, 1] rfl rfl rfl rfl rfl hl.1 rfl (Nat.le_of_ble_eq_true rfl) dL_holds_441 ⟨Nat.zero_le _, Nat.zero_le _⟩ (fun r441 h441 => ?_)
                subst h441
                refine zi_top (v := qShare m_) rfl ?_
                refine lv_ldc hx hb hown (hts _ (List.mem_cons_of_mem _ zw_297)) dL_holds_444 ?_
                refine zt_ne (a := (qShare m_).toInt) (b := ((1065353216 : Int32)).toInt) (tgt := 453) hx hb dL_holds_446 (by decide) rfl rfl (fun c446 => ?_) (fun hd_ => absurd hd_ (fun q_ => hsh (Int32.toInt_inj.mp q_)))
                refine lv_iconst (v := nI 0) hx hb dL_holds_453 (by decide) ?_
                refine zb_ne (a := 0) (b := 0) (tgt := 461) hx hb dL_holds_454 (by decide) (by decide) (by decide) (fun hd_ => absurd hd_ (by decide)) (fun c454 => ?_)
                refine lv_iconst (v := nI 1) hx hb dL_holds_457 (by decide) ?_
                refine lv_goto (tgt := 462) hx hb dL_holds_458 (by decide) ?_
                exact kr _ e_ _ _ _ _ dL_holds_462 rfl ⟨rfl, trivial⟩ hP hD hS
            · skip
              have J74 : ∀ (a_ : Int32) (ha : bMT m_ a_ = true) (hak : 0 < g_ → a_ = kI g_), ∀ (H : Heap) (locs : List Loc), va_P D vwCl [((ad 0), .inr (4, [.ref (ad 1), .ref (ad 3), .ref (ad 18), .ref (ad 25), .ref (ad 27), .ref (ad 28), .int (nI pl_), .int (nI (mU m_)), .int (nI (mX m_))])), ((ad 1), .inr (3, [.int (nI (mN m_)), .long (mP m_), .long (mT m_), .int (nI (mC m_)), .ref (ad 2)])), ((ad 2), .inl (cy 1, 6, .inr (.inl (mM m_)))), ((ad 25), .inr (0, [.ref (ad 26)])), ((ad 26), .inl (cy 0, 17, .inl (nIf e_)))] H → va_D zA [((ad 0), .inr (4, [.ref (ad 1), .ref (ad 3), .ref (ad 18), .ref (ad 25), .ref (ad 27), .ref (ad 28), .int (nI pl_), .int (nI (mU m_)), .int (nI (mX m_))])), ((ad 1), .inr (3, [.int (nI (mN m_)), .long (mP m_), .long (mT m_), .int (nI (mC m_)), .ref (ad 2)])), ((ad 2), .inl (cy 1, 6, .inr (.inl (mM m_)))), ((ad 25), .inr (0, [.ref (ad 26)])), ((ad 26), .inl (cy 0, 17, .inl (nIf e_)))] → va_S zA zs.heap H locs → ∀ ls : Array Slot, lv_has ls 13 [(0, .ref (ad 0)), (1, .int w_), (2, .int (nI (mN m_))), (3, .int (nI Z_)), (4, .int (nI (mC m_))), (5, .int by_), (6, .int (kI g_))] → W zp l ze r_L_holds zs zm za zb zme zc H locs 0 0 Q (F0 zm 74 ls [.int a_]) := by
                intro a_ ha hak H locs hP hD hS ls hl
                refine lv_istore (lv' := [(7, .int a_), (0, .ref (ad 0)), (1, .int w_), (2, .int (nI (mN m_))), (3, .int (nI Z_)), (4, .int (nI (mC m_))), (5, .int by_), (6, .int (kI g_))]) hx hb dL_holds_74 hl (by decide) rfl (fun ls hl => ?_)
                obtain ⟨x_, hx_⟩ : ∃ z_, z_ = mkT m_ a_ := ⟨_, rfl⟩
                have hwx : WF (mN m_) x_ := by rw [hx_]; exact mkT_WF hw ha
                obtain ⟨o_, ho_⟩ : ∃ z_, z_ = ordF (cnt x_ (mN m_)) 17 := ⟨_, rfl⟩
                have hq0 : qOf m_ a_ (nI 0) = nI o_ := by rw [qOf_0 ha, ← hx_, ← ho_]
                obtain ⟨K_, hK_⟩ : ∃ z_, z_ = coutN (cnt x_ (mN m_)) 17 := ⟨_, rfl⟩
                have hqc : qCommuting m_ a_ = lN K_ := by rw [qCommuting_v ha, ← hx_, ← hK_]
                have hnum : o_ ≤ 140 ∧ o_ ≤ K_ ∧ K_ ≤ 2 ^ 62 := by rw [ho_, hK_]; exact ord_num hwx hn
                obtain ⟨u_, hu_⟩ : ∃ z_, z_ = cutM x_ (mN m_) (mN m_) := ⟨_, rfl⟩
                have hq5 : qOf m_ a_ (nI 5) = nI u_ := by rw [qOf_5 ha, ← hx_, ← hu_]
                have hu16 : u_ < 65536 := by rw [hu_]; exact cutM_lt _ hn
                have hadd_ := by_add hb_ hnum.1
                have hb0 : u_.testBit 0 = true := by rw [hu_, cut_bit _ (by omega)]; exact decide_eq_true (bec_0c hwx hn (by omega))
                refine lv_aload_n hx hb dL_holds_76 rfl (lv_at hl 1 rfl) ?_
                refine lv_iload hx hb dL_holds_77 (lv_at hl 0 rfl) ?_
                refine lv_iconst (v := nI 0) hx hb dL_holds_79 (by decide) ?_
                refine zcWi (As := [.int a_, .int (nI 0)]) (rest := []) (wr := []) ⟨hx, hb, hml, hown, hts⟩ (c_X7_of l D cy H.size ad m_ pl_ e_ a_ (nI 0) (by omega)) (cwV 2 hts (zG_V zw_298 zw_299 zw_300 zw_2 zw_301) rfl rfl rfl zd_X7_of ⟨Nat.le_of_ble_eq_true rfl, Nat.le_of_ble_eq_true rfl⟩) hK hP hD hS hA [0, 1, 2, 3, 4] [] [0, 1, 2, 3, 4] rfl (by decide) rfl (by decide) (by decide) (w2 := (fun uq_ : (Nat → Nat) => ([((ad 0), .inr (4, [.ref (ad 1), .ref (ad 3), .ref (ad 18), .ref (ad 25), .ref (ad 27), .ref (ad 28), .int (nI pl_), .int (nI (mU m_)), .int (nI (mX m_))])), ((ad 1), .inr (3, [.int (nI (mN m_)), .long (mP m_), .long (mT m_), .int (nI (mC m_)), .ref (ad 2)])), ((ad 2), .inl (cy 1, 6, .inr (.inl (mM m_)))), ((ad 25), .inr (0, [.ref (ad 26)])), ((ad 26), .inl (cy 0, 17, .inl (nIf uq_)))] : va_W))) (fun _ => rfl) (by decide) rfl rfl rfl rfl hl.1 rfl (Nat.le_of_ble_eq_true rfl) dL_holds_80 ⟨Nat.zero_le _, Nat.zero_le _⟩ (fun r80 u80 H locs h80 hP hD hS => ?_)
                obtain ⟨d_80, rfl⟩ : ∃ z_, z_ = u80 := ⟨_, rfl⟩
                obtain ⟨hr80, h80⟩ := h80
                have hr80 : r80 = qOf m_ a_ (nI 0) := hr80
                have h80 : True := h80
                subst hr80
                have hP : va_P D vwCl [((ad 0), .inr (4, [.ref (ad 1), .ref (ad 3), .ref (ad 18), .ref (ad 25), .ref (ad 27), .ref (ad 28), .int (nI pl_), .int (nI (mU m_)), .int (nI (mX m_))])), ((ad 1), .inr (3, [.int (nI (mN m_)), .long (mP m_), .long (mT m_), .int (nI (mC m_)), .ref (ad 2)])), ((ad 2), .inl (cy 1, 6, .inr (.inl (mM m_)))), ((ad 25), .inr (0, [.ref (ad 26)])), ((ad 26), .inl (cy 0, 17, .inl (nIf d_80)))] H := hP
                have hD : va_D zA [((ad 0), .inr (4, [.ref (ad 1), .ref (ad 3), .ref (ad 18), .ref (ad 25), .ref (ad 27), .ref (ad 28), .int (nI pl_), .int (nI (mU m_)), .int (nI (mX m_))])), ((ad 1), .inr (3, [.int (nI (mN m_)), .long (mP m_), .long (mT m_), .int (nI (mC m_)), .ref (ad 2)])), ((ad 2), .inl (cy 1, 6, .inr (.inl (mM m_)))), ((ad 25), .inr (0, [.ref (ad 26)])), ((ad 26), .inl (cy 0, 17, .inl (nIf d_80)))] := hD
                refine zi_top (v := nI o_) hq0 ?_
                refine lv_istore (lv' := [(8, .int (nI o_)), (7, .int a_), (0, .ref (ad 0)), (1, .int w_), (2, .int (nI (mN m_))), (3, .int (nI Z_)), (4, .int (nI (mC m_))), (5, .int by_), (6, .int (kI g_))]) hx hb dL_holds_83 hl (by decide) rfl (fun ls hl => ?_)
                refine lv_aload_n hx hb dL_holds_85 rfl (lv_at hl 2 rfl) ?_
                refine lv_iload hx hb dL_holds_86 (lv_at hl 1 rfl) ?_
                refine lv_iconst (v := nI 5) hx hb dL_holds_88 (by decide) ?_
                refine zcWi (As := [.int a_, .int (nI 5)]) (rest := []) (wr := []) ⟨hx, hb, hml, hown, hts⟩ (c_X7_of l D cy H.size ad m_ pl_ d_80 a_ (nI 5) (by omega)) (cwV 2 hts (zG_V zw_298 zw_299 zw_300 zw_2 zw_301) rfl rfl rfl zd_X7_of ⟨Nat.le_of_ble_eq_true rfl, Nat.le_of_ble_eq_true rfl⟩) hK hP hD hS hA [0, 1, 2, 3, 4] [] [0, 1, 2, 3, 4] rfl (by decide) rfl (by decide) (by decide) (w2 := (fun uq_ : (Nat → Nat) => ([((ad 0), .inr (4, [.ref (ad 1), .ref (ad 3), .ref (ad 18), .ref (ad 25), .ref (ad 27), .ref (ad 28), .int (nI pl_), .int (nI (mU m_)), .int (nI (mX m_))])), ((ad 1), .inr (3, [.int (nI (mN m_)), .long (mP m_), .long (mT m_), .int (nI (mC m_)), .ref (ad 2)])), ((ad 2), .inl (cy 1, 6, .inr (.inl (mM m_)))), ((ad 25), .inr (0, [.ref (ad 26)])), ((ad 26), .inl (cy 0, 17, .inl (nIf uq_)))] : va_W))) (fun _ => rfl) (by decide) rfl rfl rfl rfl hl.1 rfl (Nat.le_of_ble_eq_true rfl) dL_holds_89 ⟨Nat.zero_le _, Nat.zero_le _⟩ (fun r89 u89 H locs h89 hP hD hS => ?_)
                obtain ⟨d_89, rfl⟩ : ∃ z_, z_ = u89 := ⟨_, rfl⟩
                obtain ⟨hr89, h89⟩ := h89
                have hr89 : r89 = qOf m_ a_ (nI 5) := hr89
                have h89 : True := h89
                subst hr89
                have hP : va_P D vwCl [((ad 0), .inr (4, [.ref (ad 1), .ref (ad 3), .ref (ad 18), .ref (ad 25), .ref (ad 27), .ref (ad 28), .int (nI pl_), .int (nI (mU m_)), .int (nI (mX m_))])), ((ad 1), .inr (3, [.int (nI (mN m_)), .long (mP m_), .long (mT m_), .int (nI (mC m_)), .ref (ad 2)])), ((ad 2), .inl (cy 1, 6, .inr (.inl (mM m_)))), ((ad 25), .inr (0, [.ref (ad 26)])), ((ad 26), .inl (cy 0, 17, .inl (nIf d_89)))] H := hP
                have hD : va_D zA [((ad 0), .inr (4, [.ref (ad 1), .ref (ad 3), .ref (ad 18), .ref (ad 25), .ref (ad 27), .ref (ad 28), .int (nI pl_), .int (nI (mU m_)), .int (nI (mX m_))])), ((ad 1), .inr (3, [.int (nI (mN m_)), .long (mP m_), .long (mT m_), .int (nI (mC m_)), .ref (ad 2)])), ((ad 2), .inl (cy 1, 6, .inr (.inl (mM m_)))), ((ad 25), .inr (0, [.ref (ad 26)])), ((ad 26), .inl (cy 0, 17, .inl (nIf d_89)))] := hD
                refine zi_top (v := nI u_) hq5 ?_
                refine lv_istore (lv' := [(9, .int (nI u_)), (8, .int (nI o_)), (7, .int a_), (0, .ref (ad 0)), (1, .int w_), (2, .int (nI (mN m_))), (3, .int (nI Z_)), (4, .int (nI (mC m_))), (5, .int by_), (6, .int (kI g_))]) hx hb dL_holds_92 hl (by decide) rfl (fun ls hl => ?_)
                refine lv_iconst (v := nI 0) hx hb dL_holds_94 (by decide) ?_
                refine lv_istore (lv' := [(10, .int (nI 0)), (9, .int (nI u_)), (8, .int (nI o_)), (7, .int a_), (0, .ref (ad 0)), (1, .int w_), (2, .int (nI (mN m_))), (3, .int (nI Z_)), (4, .int (nI (mC m_))), (5, .int by_), (6, .int (kI g_))]) hx hb dL_holds_95 hl (by decide) rfl (fun ls hl => ?_)
                have L97 : ∀ (kf_ : Nat) (p_ : Nat) (hp : p_ ≤ mN m_), mN m_ - p_ < kf_ → ∀ (H : Heap) (locs : List Loc), va_P D vwCl [((ad 0), .inr (4, [.ref (ad 1), .ref (ad 3), .ref (ad 18), .ref (ad 25), .ref (ad 27), .ref (ad 28), .int (nI pl_), .int (nI (mU m_)), .int (nI (mX m_))])), ((ad 1), .inr (3, [.int (nI (mN m_)), .long (mP m_), .long (mT m_), .int (nI (mC m_)), .ref (ad 2)])), ((ad 2), .inl (cy 1, 6, .inr (.inl (mM m_)))), ((ad 25), .inr (0, [.ref (ad 26)])), ((ad 26), .inl (cy 0, 17, .inl (nIf d_89)))] H → va_D zA [((ad 0), .inr (4, [.ref (ad 1), .ref (ad 3), .ref (ad 18), .ref (ad 25), .ref (ad 27), .ref (ad 28), .int (nI pl_), .int (nI (mU m_)), .int (nI (mX m_))])), ((ad 1), .inr (3, [.int (nI (mN m_)), .long (mP m_), .long (mT m_), .int (nI (mC m_)), .ref (ad 2)])), ((ad 2), .inl (cy 1, 6, .inr (.inl (mM m_)))), ((ad 25), .inr (0, [.ref (ad 26)])), ((ad 26), .inl (cy 0, 17, .inl (nIf d_89)))] → va_S zA zs.heap H locs → ∀ ls : Array Slot, lv_has ls 13 [(0, .ref (ad 0)), (1, .int w_), (2, .int (nI (mN m_))), (3, .int (nI Z_)), (4, .int (nI (mC m_))), (5, .int by_), (6, .int (kI g_)), (7, .int a_), (8, .int (nI o_)), (9, .int (nI u_)), (10, .int (nI p_))] → W zp l ze r_L_holds zs zm za zb zme zc H locs 0 0 Q (F0 zm 97 ls []) := by
                  intro kf_
                  induction kf_ with
                  | zero => intro p_ hp hk_; exact absurd hk_ (Nat.not_lt_zero _)
                  | succ kf_ ih97 =>
                    intro p_ hp hk_ H locs hP hD hS ls hl
                    refine lv_iload hx hb dL_holds_97 (lv_at hl 10 rfl) ?_
                    refine lv_iload_n hx hb dL_holds_99 rfl (lv_at hl 2 rfl) ?_
                    refine zb_ge (a := p_) (b := mN m_) (tgt := 176) hx hb dL_holds_100 (by decide) (by omega) (by omega) (fun c100 => ?_) (fun c100 => ?_)
                    · skip
                      have J290 : ∀ (H : Heap) (locs : List Loc), va_P D vwCl [((ad 0), .inr (4, [.ref (ad 1), .ref (ad 3), .ref (ad 18), .ref (ad 25), .ref (ad 27), .ref (ad 28), .int (nI pl_), .int (nI (mU m_)), .int (nI (mX m_))])), ((ad 1), .inr (3, [.int (nI (mN m_)), .long (mP m_), .long (mT m_), .int (nI (mC m_)), .ref (ad 2)])), ((ad 2), .inl (cy 1, 6, .inr (.inl (mM m_)))), ((ad 25), .inr (0, [.ref (ad 26)])), ((ad 26), .inl (cy 0, 17, .inl (nIf d_89)))] H → va_D zA [((ad 0), .inr (4, [.ref (ad 1), .ref (ad 3), .ref (ad 18), .ref (ad 25), .ref (ad 27), .ref (ad 28), .int (nI pl_), .int (nI (mU m_)), .int (nI (mX m_))])), ((ad 1), .inr (3, [.int (nI (mN m_)), .long (mP m_), .long (mT m_), .int (nI (mC m_)), .ref (ad 2)])), ((ad 2), .inl (cy 1, 6, .inr (.inl (mM m_)))), ((ad 25), .inr (0, [.ref (ad 26)])), ((ad 26), .inl (cy 0, 17, .inl (nIf d_89)))] → va_S zA zs.heap H locs → ∀ ls : Array Slot, lv_has ls 13 [(0, .ref (ad 0)), (1, .int w_), (2, .int (nI (mN m_))), (3, .int (nI Z_)), (4, .int (nI (mC m_))), (5, .int by_), (6, .int (kI g_)), (7, .int a_), (8, .int (nI o_)), (9, .int (nI u_))] → W zp l ze r_L_holds zs zm za zb zme zc H locs 0 0 Q (F0 zm 290 ls []) := by
                        intro   H locs hP hD hS ls hl
                        refine lv_iconst (v := nI 0) hx hb dL_holds_290 (by decide) ?_
                        refine lv_istore (lv' := [(10, .int (nI 0)), (0, .ref (ad 0)), (1, .int w_), (2, .int (nI (mN m_))), (3, .int (nI Z_)), (4, .int (nI (mC m_))), (5, .int by_), (6, .int (kI g_)), (7, .int a_), (8, .int (nI o_)), (9, .int (nI u_))]) hx hb dL_holds_291 hl (by decide) rfl (fun ls hl => ?_)
                        have L293 : ∀ (kf_ : Nat) (i_ : Nat) (hi2 : i_ ≤ mC m_), mC m_ - i_ < kf_ → ∀ (H : Heap) (locs : List Loc), va_P D vwCl [((ad 0), .inr (4, [.ref (ad 1), .ref (ad 3), .ref (ad 18), .ref (ad 25), .ref (ad 27), .ref (ad 28), .int (nI pl_), .int (nI (mU m_)), .int (nI (mX m_))])), ((ad 1), .inr (3, [.int (nI (mN m_)), .long (mP m_), .long (mT m_), .int (nI (mC m_)), .ref (ad 2)])), ((ad 2), .inl (cy 1, 6, .inr (.inl (mM m_)))), ((ad 25), .inr (0, [.ref (ad 26)])), ((ad 26), .inl (cy 0, 17, .inl (nIf d_89)))] H → va_D zA [((ad 0), .inr (4, [.ref (ad 1), .ref (ad 3), .ref (ad 18), .ref (ad 25), .ref (ad 27), .ref (ad 28), .int (nI pl_), .int (nI (mU m_)), .int (nI (mX m_))])), ((ad 1), .inr (3, [.int (nI (mN m_)), .long (mP m_), .long (mT m_), .int (nI (mC m_)), .ref (ad 2)])), ((ad 2), .inl (cy 1, 6, .inr (.inl (mM m_)))), ((ad 25), .inr (0, [.ref (ad 26)])), ((ad 26), .inl (cy 0, 17, .inl (nIf d_89)))] → va_S zA zs.heap H locs → ∀ ls : Array Slot, lv_has ls 13 [(0, .ref (ad 0)), (1, .int w_), (2, .int (nI (mN m_))), (3, .int (nI Z_)), (4, .int (nI (mC m_))), (5, .int by_), (6, .int (kI g_)), (7, .int a_), (8, .int (nI o_)), (9, .int (nI u_)), (10, .int (nI i_))] → W zp l ze r_L_holds zs zm za zb zme zc H locs 0 0 Q (F0 zm 293 ls []) := by
                          intro kf_
                          induction kf_ with
                          | zero => intro i_ hi2 hk_; exact absurd hk_ (Nat.not_lt_zero _)
                          | succ kf_ ih293 =>
                            intro i_ hi2 hk_ H locs hP hD hS ls hl
                            refine lv_iload hx hb dL_holds_293 (lv_at hl 10 rfl) ?_
                            refine lv_iload hx hb dL_holds_295 (lv_at hl 4 rfl) ?_
                            refine zb_ge (a := i_) (b := mC m_) (tgt := 327) hx hb dL_holds_297 (by decide) (by omega) (by omega) (fun c297 => ?_) (fun c297 => ?_)
                            · skip
                              refine lv_aload_n hx hb dL_holds_327 rfl (lv_at hl 0 rfl) ?_
                              refine lv_iload hx hb dL_holds_328 (lv_at hl 7 rfl) ?_
                              refine zcWl (As := [.int a_]) (rest := []) (wr := []) ⟨hx, hb, hml, hown, hts⟩ (c_X7_commuting l D cy H.size ad m_ pl_ d_89 a_ (by omega)) (cwV 1 hts (zG_V zw_351 zw_352 zw_353 zw_2 zw_354) rfl rfl rfl zd_X7_commuting ⟨Nat.le_of_ble_eq_true rfl, Nat.le_of_ble_eq_true rfl⟩) hK hP hD hS hA [0, 1, 2, 3, 4] [] [0, 1, 2, 3, 4] rfl (by decide) rfl (by decide) (by decide) (w2 := (fun uq_ : (Nat → Nat) => ([((ad 0), .inr (4, [.ref (ad 1), .ref (ad 3), .ref (ad 18), .ref (ad 25), .ref (ad 27), .ref (ad 28), .int (nI pl_), .int (nI (mU m_)), .int (nI (mX m_))])), ((ad 1), .inr (3, [.int (nI (mN m_)), .long (mP m_), .long (mT m_), .int (nI (mC m_)), .ref (ad 2)])), ((ad 2), .inl (cy 1, 6, .inr (.inl (mM m_)))), ((ad 25), .inr (0, [.ref (ad 26)])), ((ad 26), .inl (cy 0, 17, .inl (nIf uq_)))] : va_W))) (fun _ => rfl) (by decide) rfl rfl rfl rfl hl.1 rfl (Nat.le_of_ble_eq_true rfl) dL_holds_330 ⟨Nat.zero_le _, Nat.zero_le _⟩ (fun r330 u330 H locs h330 hP hD hS => ?_)
                              obtain ⟨d_330, rfl⟩ : ∃ z_, z_ = u330 := ⟨_, rfl⟩
                              obtain ⟨hr330, h330⟩ := h330
                              have hr330 : r330 = qCommuting m_ a_ := hr330
                              have h330 : True := h330
                              subst hr330
                              have hP : va_P D vwCl [((ad 0), .inr (4, [.ref (ad 1), .ref (ad 3), .ref (ad 18), .ref (ad 25), .ref (ad 27), .ref (ad 28), .int (nI pl_), .int (nI (mU m_)), .int (nI (mX m_))])), ((ad 1), .inr (3, [.int (nI (mN m_)), .long (mP m_), .long (mT m_), .int (nI (mC m_)), .ref (ad 2)])), ((ad 2), .inl (cy 1, 6, .inr (.inl (mM m_)))), ((ad 25), .inr (0, [.ref (ad 26)])), ((ad 26), .inl (cy 0, 17, .inl (nIf d_330)))] H := hP
                              have hD : va_D zA [((ad 0), .inr (4, [.ref (ad 1), .ref (ad 3), .ref (ad 18), .ref (ad 25), .ref (ad 27), .ref (ad 28), .int (nI pl_), .int (nI (mU m_)), .int (nI (mX m_))])), ((ad 1), .inr (3, [.int (nI (mN m_)), .long (mP m_), .long (mT m_), .int (nI (mC m_)), .ref (ad 2)])), ((ad 2), .inl (cy 1, 6, .inr (.inl (mM m_)))), ((ad 25), .inr (0, [.ref (ad 26)])), ((ad 26), .inl (cy 0, 17, .inl (nIf d_330)))] := hD
                              refine zl_top (v := lN K_) hqc ?_
                              refine lv_iload hx hb dL_holds_333 (lv_at hl 8 rfl) ?_
                              refine lv_i2l (v := lN o_) hx hb dL_holds_335 (nI_l (by omega)) ?_
                              refine W.lcmp hx hb dL_holds_336 ?_
                              refine zc_lt (tgt := 367) hx hb dL_holds_337 (by decide) (fun hd_ => absurd hd_ (fun q_ => absurd ((pk_lLT (by omega) (by omega)).mp q_) (by omega))) (fun c337 => ?_)
                              refine lv_aload_n hx hb dL_holds_340 rfl (lv_at hl 0 rfl) ?_
                              refine lv_iload hx hb dL_holds_341 (lv_at hl 7 rfl) ?_
                              refine lv_iload hx hb dL_holds_343 (lv_at hl 7 rfl) ?_
                              refine zcRi (As := [.int a_, .int a_]) (rest := []) ⟨hx, hb, hml, hown, hts⟩ (c_X7_commute l D cy ad m_ pl_ a_ a_ (by omega)) (cwV 2 hts (zG_V zw_347 zw_348 zw_349 zw_2 zw_350) rfl rfl rfl zd_X7_commute ⟨Nat.le_of_ble_eq_true rfl, Nat.le_of_ble_eq_true rfl⟩) hK hP [0, 1, 2] rfl rfl rfl rfl rfl hl.1 rfl (Nat.le_of_ble_eq_true rfl) dL_holds_345 ⟨Nat.zero_le _, Nat.zero_le _⟩ (fun r345 h345 => ?_)
                              subst h345
                              refine zi_top (v := nI 1) (qCommute_self ha) ?_
                              refine lv_iconst (v := nI 1) hx hb dL_holds_348 (by decide) ?_
                              refine zb_ne (a := 1) (b := 1) (tgt := 367) hx hb dL_holds_349 (by decide) (by decide) (by decide) (fun hd_ => absurd hd_ (by decide)) (fun c349 => ?_)
                              refine lv_iload hx hb dL_holds_352 (lv_at hl 9 rfl) ?_
                              refine lv_iconst (v := nI 1) hx hb dL_holds_354 (by decide) ?_
                              refine zi_and (v := nI 1) hx hb dL_holds_355 (and_b0 hb0) ?_
                              refine zb0_eq (a := 1) (tgt := 367) hx hb dL_holds_356 (by decide) (by decide) (fun hd_ => absurd hd_ (by decide)) (fun c356 => ?_)
                              refine lv_iload hx hb dL_holds_359 (lv_at hl 8 rfl) ?_
                              refine lv_sipush (v := nI 140) hx hb dL_holds_361 (by decide) ?_
                              refine zb_le (a := o_) (b := 140) (tgt := 369) hx hb dL_holds_364 (by decide) (by omega) (by omega) (fun c364 => ?_) (fun hd_ => absurd hd_ (by omega))
                              refine lv_iinc (v := kI (g_ + 1)) (lv' := [(6, .int (kI (g_ + 1))), (0, .ref (ad 0)), (1, .int w_), (2, .int (nI (mN m_))), (3, .int (nI Z_)), (4, .int (nI (mC m_))), (5, .int by_), (7, .int a_), (8, .int (nI o_)), (9, .int (nI u_)), (10, .int (nI i_))]) hx hb dL_holds_369 hl (k := 6) rfl (kI_s (by omega)) (by decide) rfl (fun ls hl => ?_)
                              refine lv_goto (tgt := 55) hx hb dL_holds_372 (by decide) ?_
                              exact ih55 (g_ + 1) d_330 (by omega) (by omega) _ _ hP hD hS _ (lv_sub hl [1, 2, 3, 4, 5, 6, 0] rfl)
                            · skip
                              refine lv_aload_n hx hb dL_holds_300 rfl (lv_at hl 0 rfl) ?_
                              refine lv_iload hx hb dL_holds_301 (lv_at hl 7 rfl) ?_
                              refine lv_iload hx hb dL_holds_303 (lv_at hl 10 rfl) ?_
                              refine zcRi (As := [.int a_, .int (nI i_)]) (rest := []) ⟨hx, hb, hml, hown, hts⟩ (c_X7_commute l D cy ad m_ pl_ a_ (nI i_) (by omega)) (cwV 2 hts (zG_V zw_347 zw_348 zw_349 zw_2 zw_350) rfl rfl rfl zd_X7_commute ⟨Nat.le_of_ble_eq_true rfl, Nat.le_of_ble_eq_true rfl⟩) hK hP [0, 1, 2] rfl rfl rfl rfl rfl hl.1 rfl (Nat.le_of_ble_eq_true rfl) dL_holds_305 ⟨Nat.zero_le _, Nat.zero_le _⟩ (fun r305 h305 => ?_)
                              subst h305
                              refine lv_aload_n hx hb dL_holds_308 rfl (lv_at hl 0 rfl) ?_
                              refine lv_iload hx hb dL_holds_309 (lv_at hl 10 rfl) ?_
                              refine lv_iload hx hb dL_holds_311 (lv_at hl 7 rfl) ?_
                              refine zcRi (As := [.int (nI i_), .int a_]) (rest := [.int (qCommute m_ a_ (nI i_))]) ⟨hx, hb, hml, hown, hts⟩ (c_X7_commute l D cy ad m_ pl_ (nI i_) a_ (by omega)) (cwV 2 hts (zG_V zw_347 zw_348 zw_349 zw_2 zw_350) rfl rfl rfl zd_X7_commute ⟨Nat.le_of_ble_eq_true rfl, Nat.le_of_ble_eq_true rfl⟩) hK hP [0, 1, 2] rfl rfl rfl rfl rfl hl.1 rfl (Nat.le_of_ble_eq_true rfl) dL_holds_313 ⟨Nat.zero_le _, Nat.zero_le _⟩ (fun r313 h313 => ?_)
                              subst h313
                              refine zi_top (v := qCommute m_ a_ (nI i_)) (qCommute_comm _ _ _) ?_
                              refine zt_eq (a := (qCommute m_ a_ (nI i_)).toInt) (b := (qCommute m_ a_ (nI i_)).toInt) (tgt := 321) hx hb dL_holds_316 (by decide) rfl rfl (fun c316 => ?_) (fun hd_ => absurd hd_ (by omega))
                              refine lv_iinc (v := nI (i_ + 1)) (lv' := [(10, .int (nI (i_ + 1))), (0, .ref (ad 0)), (1, .int w_), (2, .int (nI (mN m_))), (3, .int (nI Z_)), (4, .int (nI (mC m_))), (5, .int by_), (6, .int (kI g_)), (7, .int a_), (8, .int (nI o_)), (9, .int (nI u_))]) hx hb dL_holds_321 hl (k := 10) rfl (nI_1 _) (by decide) rfl (fun ls hl => ?_)
                              refine lv_goto (tgt := 293) hx hb dL_holds_324 (by decide) ?_
                              exact ih293 (i_ + 1) (by omega) (by omega) _ _ hP hD hS _ (lv_sub hl [1, 2, 3, 4, 5, 6, 7, 8, 9, 10, 0] rfl)
                        exact L293 (mC m_ - 0 + 1) 0 (by omega) (Nat.lt_succ_self _) _ _ hP hD hS _ (lv_sub hl [1, 2, 3, 4, 5, 6, 7, 8, 9, 10, 0] rfl)
                      refine lv_iconst (v := nI 0) hx hb dL_holds_176 (by decide) ?_
                      refine lv_istore (lv' := [(10, .int (nI 0)), (0, .ref (ad 0)), (1, .int w_), (2, .int (nI (mN m_))), (3, .int (nI Z_)), (4, .int (nI (mC m_))), (5, .int by_), (6, .int (kI g_)), (7, .int a_), (8, .int (nI o_)), (9, .int (nI u_))]) hx hb dL_holds_177 hl (by decide) rfl (fun ls hl => ?_)
                      have L179 : ∀ (kf_ : Nat) (k_ : Nat) (hk : k_ ≤ mN m_), mN m_ - k_ < kf_ → ∀ (H : Heap) (locs : List Loc), va_P D vwCl [((ad 0), .inr (4, [.ref (ad 1), .ref (ad 3), .ref (ad 18), .ref (ad 25), .ref (ad 27), .ref (ad 28), .int (nI pl_), .int (nI (mU m_)), .int (nI (mX m_))])), ((ad 1), .inr (3, [.int (nI (mN m_)), .long (mP m_), .long (mT m_), .int (nI (mC m_)), .ref (ad 2)])), ((ad 2), .inl (cy 1, 6, .inr (.inl (mM m_)))), ((ad 25), .inr (0, [.ref (ad 26)])), ((ad 26), .inl (cy 0, 17, .inl (nIf d_89)))] H → va_D zA [((ad 0), .inr (4, [.ref (ad 1), .ref (ad 3), .ref (ad 18), .ref (ad 25), .ref (ad 27), .ref (ad 28), .int (nI pl_), .int (nI (mU m_)), .int (nI (mX m_))])), ((ad 1), .inr (3, [.int (nI (mN m_)), .long (mP m_), .long (mT m_), .int (nI (mC m_)), .ref (ad 2)])), ((ad 2), .inl (cy 1, 6, .inr (.inl (mM m_)))), ((ad 25), .inr (0, [.ref (ad 26)])), ((ad 26), .inl (cy 0, 17, .inl (nIf d_89)))] → va_S zA zs.heap H locs → ∀ ls : Array Slot, lv_has ls 13 [(0, .ref (ad 0)), (1, .int w_), (2, .int (nI (mN m_))), (3, .int (nI Z_)), (4, .int (nI (mC m_))), (5, .int by_), (6, .int (kI g_)), (7, .int a_), (8, .int (nI o_)), (9, .int (nI u_)), (10, .int (nI k_))] → W zp l ze r_L_holds zs zm za zb zme zc H locs 0 0 Q (F0 zm 179 ls []) := by
                        intro kf_
                        induction kf_ with
                        | zero => intro k_ hk hk_; exact absurd hk_ (Nat.not_lt_zero _)
                        | succ kf_ ih179 =>
                          intro k_ hk hk_ H locs hP hD hS ls hl
                          refine lv_iload hx hb dL_holds_179 (lv_at hl 10 rfl) ?_
                          refine lv_iload_n hx hb dL_holds_181 rfl (lv_at hl 2 rfl) ?_
                          refine zb_ge (a := k_) (b := mN m_) (tgt := 290) hx hb dL_holds_182 (by decide) (by omega) (by omega) (fun c182 => ?_) (fun c182 => ?_)
                          · skip
                            exact J290 _ _ hP hD hS _ (lv_sub hl [0, 1, 2, 3, 4, 5, 6, 7, 8, 9] rfl)
                          · skip
                            refine lv_iload hx hb dL_holds_185 (lv_at hl 6 rfl) ?_
                            refine zt0_lt (a := ((g_ : Nat) : Int) - 1) (tgt := 290) hx hb dL_holds_187 (by decide) (kI_t (by omega)) (fun c187 => ?_) (fun c187 => ?_)
                            · skip
                              exact J290 _ _ hP hD hS _ (lv_sub hl [0, 1, 2, 3, 4, 5, 6, 7, 8, 9] rfl)
                            · skip
                              have hg0 : 0 < g_ := by omega
                              have hak_ : a_ = kI g_ := hak hg0
                              have hbM : bM m_ (kI g_) = true := kI_M hC6 hg0 (by omega)
                              have hxk : mkT m_ (kI g_) = x_ := by rw [← hak_, ← hx_]
                              refine lv_iconst (v := nI 1) hx hb dL_holds_190 (by decide) ?_
                              refine zi_top (v := if chkA (kpF x_ k_ (mN m_)) 0 = true then 1 else 0) rfl ?_
                              refine lv_istore (lv' := [(11, .int (if chkA (kpF x_ k_ (mN m_)) 0 = true then 1 else 0)), (0, .ref (ad 0)), (1, .int w_), (2, .int (nI (mN m_))), (3, .int (nI Z_)), (4, .int (nI (mC m_))), (5, .int by_), (6, .int (kI g_)), (7, .int a_), (8, .int (nI o_)), (9, .int (nI u_)), (10, .int (nI k_))]) hx hb dL_holds_191 hl (by decide) rfl (fun ls hl => ?_)
                              refine lv_iconst (v := nI 0) hx hb dL_holds_193 (by decide) ?_
                              refine lv_istore (lv' := [(12, .int (nI 0)), (11, .int (if chkA (kpF x_ k_ (mN m_)) 0 = true then 1 else 0)), (0, .ref (ad 0)), (1, .int w_), (2, .int (nI (mN m_))), (3, .int (nI Z_)), (4, .int (nI (mC m_))), (5, .int by_), (6, .int (kI g_)), (7, .int a_), (8, .int (nI o_)), (9, .int (nI u_)), (10, .int (nI k_))]) hx hb dL_holds_194 hl (by decide) rfl (fun ls hl => ?_)
                              have L196 : ∀ (kf_ : Nat) (y_ : Nat) (hy : y_ ≤ mN m_), mN m_ - y_ < kf_ → ∀ (H : Heap) (locs : List Loc), va_P D vwCl [((ad 0), .inr (4, [.ref (ad 1), .ref (ad 3), .ref (ad 18), .ref (ad 25), .ref (ad 27), .ref (ad 28), .int (nI pl_), .int (nI (mU m_)), .int (nI (mX m_))])), ((ad 1), .inr (3, [.int (nI (mN m_)), .long (mP m_), .long (mT m_), .int (nI (mC m_)), .ref (ad 2)])), ((ad 2), .inl (cy 1, 6, .inr (.inl (mM m_)))), ((ad 25), .inr (0, [.ref (ad 26)])), ((ad 26), .inl (cy 0, 17, .inl (nIf d_89)))] H → va_D zA [((ad 0), .inr (4, [.ref (ad 1), .ref (ad 3), .ref (ad 18), .ref (ad 25), .ref (ad 27), .ref (ad 28), .int (nI pl_), .int (nI (mU m_)), .int (nI (mX m_))])), ((ad 1), .inr (3, [.int (nI (mN m_)), .long (mP m_), .long (mT m_), .int (nI (mC m_)), .ref (ad 2)])), ((ad 2), .inl (cy 1, 6, .inr (.inl (mM m_)))), ((ad 25), .inr (0, [.ref (ad 26)])), ((ad 26), .inl (cy 0, 17, .inl (nIf d_89)))] → va_S zA zs.heap H locs → ∀ ls : Array Slot, lv_has ls 13 [(0, .ref (ad 0)), (1, .int w_), (2, .int (nI (mN m_))), (3, .int (nI Z_)), (4, .int (nI (mC m_))), (5, .int by_), (6, .int (kI g_)), (7, .int a_), (8, .int (nI o_)), (9, .int (nI u_)), (10, .int (nI k_)), (11, .int (if chkA (kpF x_ k_ (mN m_)) y_ = true then 1 else 0)), (12, .int (nI y_))] → W zp l ze r_L_holds zs zm za zb zme zc H locs 0 0 Q (F0 zm 196 ls []) := by
                                intro kf_
                                induction kf_ with
                                | zero => intro y_ hy hk_; exact absurd hk_ (Nat.not_lt_zero _)
                                | succ kf_ ih196 =>
                                  intro y_ hy hk_ H locs hP hD hS ls hl
                                  refine lv_iload hx hb dL_holds_196 (lv_at hl 12 rfl) ?_
                                  refine lv_iload_n hx hb dL_holds_198 rfl (lv_at hl 2 rfl) ?_
                                  refine zb_ge (a := y_) (b := mN m_) (tgt := 242) hx hb dL_holds_199 (by decide) (by omega) (by omega) (fun c199 => ?_) (fun c199 => ?_)
                                  · skip
                                    have ey_ : y_ = mN m_ := by omega
                                    rw [ey_] at hl
                                    have hkp : chkA (kpF x_ k_ (mN m_)) (mN m_) = true ↔ becL x_ k_ (mN m_) = x_ := kp_iff hwx hn (by omega)
                                    by_cases hbc : becL x_ k_ (mN m_) = x_
                                    · have e_ : (if chkA (kpF x_ k_ (mN m_)) (mN m_) = true then 1 else 0 : Int32) = nI 1 := if_pos (hkp.mpr hbc)
                                      rw [e_] at hl
                                      have hbt : u_.testBit k_ = true := by rw [hu_, cut_bit _ (by omega)]; exact decide_eq_true hbc
                                      have hm32 : (mN m_ - k_) % mN m_ < 32 := Nat.lt_of_lt_of_le (Nat.mod_lt _ (by omega)) (by omega)
                                      have hbt2 : u_.testBit ((mN m_ - k_) % mN m_) = true := by rw [hu_, cut_bit _ (Nat.mod_lt _ (by omega))]; exact decide_eq_true (bec_inv hwx hn (by omega) hbc)
                                      refine lv_iload hx hb dL_holds_242 (lv_at hl 11 rfl) ?_
                                      refine lv_iload hx hb dL_holds_244 (lv_at hl 9 rfl) ?_
                                      refine lv_iload hx hb dL_holds_246 (lv_at hl 10 rfl) ?_
                                      refine zi_shr (v := nI (u_ / 2 ^ k_)) hx hb dL_holds_248 (zz_shr (by omega) (by omega)) ?_
                                      refine lv_iconst (v := nI 1) hx hb dL_holds_249 (by decide) ?_
                                      refine zi_and (v := nI 1) hx hb dL_holds_250 ((zz_tb _ _).trans (if_pos hbt)) ?_
                                      refine lv_iconst (v := nI 1) hx hb dL_holds_251 (by decide) ?_
                                      refine zb_ne (a := 1) (b := 1) (tgt := 259) hx hb dL_holds_252 (by decide) (by decide) (by decide) (fun hd_ => absurd hd_ (by decide)) (fun c252 => ?_)
                                      refine lv_iconst (v := nI 1) hx hb dL_holds_255 (by decide) ?_
                                      refine lv_goto (tgt := 260) hx hb dL_holds_256 (by decide) ?_
                                      refine zb_ne (a := 1) (b := 1) (tgt := 282) hx hb dL_holds_260 (by decide) (by decide) (by decide) (fun hd_ => absurd hd_ (by decide)) (fun c260 => ?_)
                                      refine lv_iload hx hb dL_holds_263 (lv_at hl 11 rfl) ?_
                                      refine zb0_eq (a := 1) (tgt := 284) hx hb dL_holds_265 (by decide) (by decide) (fun hd_ => absurd hd_ (by decide)) (fun c265 => ?_)
                                      refine lv_iload hx hb dL_holds_268 (lv_at hl 9 rfl) ?_
                                      refine lv_iload_n hx hb dL_holds_270 rfl (lv_at hl 2 rfl) ?_
                                      refine lv_iload hx hb dL_holds_271 (lv_at hl 10 rfl) ?_
                                      refine zi_sub (v := nI ((mN m_) - k_)) hx hb dL_holds_273 (pk_sub (by omega)) ?_
                                      refine lv_iload_n hx hb dL_holds_274 rfl (lv_at hl 2 rfl) ?_
                                      refine zi_rem (v := nI (((mN m_) - k_) % (mN m_))) hx hb dL_holds_275 (nI_ne0 (by omega) (by omega)) (pk_rem (by omega) (by omega) (by omega)) ?_
                                      refine zi_shr (v := nI (u_ / 2 ^ (((mN m_) - k_) % (mN m_)))) hx hb dL_holds_276 (zz_shr (by omega) hm32) ?_
                                      refine lv_iconst (v := nI 1) hx hb dL_holds_277 (by decide) ?_
                                      refine zi_and (v := nI 1) hx hb dL_holds_278 ((zz_tb _ _).trans (if_pos hbt2)) ?_
                                      refine zb0_ne (a := 1) (tgt := 284) hx hb dL_holds_279 (by decide) (by decide) (fun c279 => ?_) (fun hd_ => absurd hd_ (by decide))
                                      refine lv_iinc (v := nI (k_ + 1)) (lv' := [(10, .int (nI (k_ + 1))), (0, .ref (ad 0)), (1, .int w_), (2, .int (nI (mN m_))), (3, .int (nI Z_)), (4, .int (nI (mC m_))), (5, .int by_), (6, .int (kI g_)), (7, .int a_), (8, .int (nI o_)), (9, .int (nI u_)), (11, .int (nI 1)), (12, .int (nI (mN m_)))]) hx hb dL_holds_284 hl (k := 10) rfl (nI_1 _) (by decide) rfl (fun ls hl => ?_)
                                      refine lv_goto (tgt := 179) hx hb dL_holds_287 (by decide) ?_
                                      exact ih179 (k_ + 1) (by omega) (by omega) _ _ hP hD hS _ (lv_sub hl [1, 2, 3, 4, 5, 6, 7, 8, 9, 10, 0] rfl)
                                    · have e_ : (if chkA (kpF x_ k_ (mN m_)) (mN m_) = true then 1 else 0 : Int32) = nI 0 := if_neg (fun q_ => hbc (hkp.mp q_))
                                      rw [e_] at hl
                                      have hbt : ¬ u_.testBit k_ = true := by rw [hu_, cut_bit _ (by omega), decide_eq_false hbc]; simp
                                      refine lv_iload hx hb dL_holds_242 (lv_at hl 11 rfl) ?_
                                      refine lv_iload hx hb dL_holds_244 (lv_at hl 9 rfl) ?_
                                      refine lv_iload hx hb dL_holds_246 (lv_at hl 10 rfl) ?_
                                      refine zi_shr (v := nI (u_ / 2 ^ k_)) hx hb dL_holds_248 (zz_shr (by omega) (by omega)) ?_
                                      refine lv_iconst (v := nI 1) hx hb dL_holds_249 (by decide) ?_
                                      refine zi_and (v := nI 0) hx hb dL_holds_250 ((zz_tb _ _).trans (if_neg hbt)) ?_
                                      refine lv_iconst (v := nI 1) hx hb dL_holds_251 (by decide) ?_
                                      refine zb_ne (a := 0) (b := 1) (tgt := 259) hx hb dL_holds_252 (by decide) (by decide) (by decide) (fun c252 => ?_) (fun hd_ => absurd hd_ (by decide))
                                      refine lv_iconst (v := nI 0) hx hb dL_holds_259 (by decide) ?_
                                      refine zb_ne (a := 0) (b := 0) (tgt := 282) hx hb dL_holds_260 (by decide) (by decide) (by decide) (fun hd_ => absurd hd_ (by decide)) (fun c260 => ?_)
                                      refine lv_iload hx hb dL_holds_263 (lv_at hl 11 rfl) ?_
                                      refine zb0_eq (a := 0) (tgt := 284) hx hb dL_holds_265 (by decide) (by decide) (fun c265 => ?_) (fun hd_ => absurd hd_ (by decide))
                                      refine lv_iinc (v := nI (k_ + 1)) (lv' := [(10, .int (nI (k_ + 1))), (0, .ref (ad 0)), (1, .int w_), (2, .int (nI (mN m_))), (3, .int (nI Z_)), (4, .int (nI (mC m_))), (5, .int by_), (6, .int (kI g_)), (7, .int a_), (8, .int (nI o_)), (9, .int (nI u_)), (11, .int (nI 0)), (12, .int (nI (mN m_)))]) hx hb dL_holds_284 hl (k := 10) rfl (nI_1 _) (by decide) rfl (fun ls hl => ?_)
                                      refine lv_goto (tgt := 179) hx hb dL_holds_287 (by decide) ?_
                                      exact ih179 (k_ + 1) (by omega) (by omega) _ _ hP hD hS _ (lv_sub hl [1, 2, 3, 4, 5, 6, 7, 8, 9, 10, 0] rfl)
                                  · skip
                                    refine lv_iload hx hb dL_holds_202 (lv_at hl 11 rfl) ?_
                                    refine zq_eq (tgt := 233) hx hb dL_holds_204 (by decide) (fun c204 => ?_) (fun c204 => ?_)
                                    · skip
                                      refine lv_iconst (v := nI 0) hx hb dL_holds_233 (by decide) ?_
                                      refine lv_istore (lv' := [(11, .int (nI 0)), (0, .ref (ad 0)), (1, .int w_), (2, .int (nI (mN m_))), (3, .int (nI Z_)), (4, .int (nI (mC m_))), (5, .int by_), (6, .int (kI g_)), (7, .int a_), (8, .int (nI o_)), (9, .int (nI u_)), (10, .int (nI k_)), (12, .int (nI y_))]) hx hb dL_holds_234 hl (by decide) rfl (fun ls hl => ?_)
                                      have e_ : nI 0 = (if chkA (kpF x_ k_ (mN m_)) (y_ + 1) = true then 1 else 0 : Int32) := chkA_0a c204
                                      rw [e_] at hl
                                      refine lv_iinc (v := nI (y_ + 1)) (lv' := [(12, .int (nI (y_ + 1))), (11, .int (if chkA (kpF x_ k_ (mN m_)) (y_ + 1) = true then 1 else 0)), (0, .ref (ad 0)), (1, .int w_), (2, .int (nI (mN m_))), (3, .int (nI Z_)), (4, .int (nI (mC m_))), (5, .int by_), (6, .int (kI g_)), (7, .int a_), (8, .int (nI o_)), (9, .int (nI u_)), (10, .int (nI k_))]) hx hb dL_holds_236 hl (k := 12) rfl (nI_1 _) (by decide) rfl (fun ls hl => ?_)
                                      refine lv_goto (tgt := 196) hx hb dL_holds_239 (by decide) ?_
                                      exact ih196 (y_ + 1) (by omega) (by omega) _ _ hP hD hS _ (lv_sub hl [2, 3, 4, 5, 6, 7, 8, 9, 10, 11, 12, 1, 0] rfl)
                                    · skip
                                      have hb1 := nb_lt (becL x_ k_ (mN m_)) y_
                                      have hb2 := nb_lt x_ y_
                                      refine lv_aload_n hx hb dL_holds_207 rfl (lv_at hl 0 rfl) ?_
                                      refine lv_iload hx hb dL_holds_208 (lv_at hl 6 rfl) ?_
                                      refine lv_iload hx hb dL_holds_210 (lv_at hl 10 rfl) ?_
                                      refine lv_iload hx hb dL_holds_212 (lv_at hl 12 rfl) ?_
                                      refine zcRi (As := [.int (kI g_), .int (nI k_), .int (nI y_)]) (rest := []) ⟨hx, hb, hml, hown, hts⟩ (c_X7_byCut l D cy ad m_ pl_ (kI g_) (nI k_) (nI y_) (by omega)) (cwV 3 hts (zG_V zw_342 zw_343 zw_344 zw_2 zw_345) rfl rfl rfl zd_X7_byCut ⟨Nat.le_of_ble_eq_true rfl, Nat.le_of_ble_eq_true rfl⟩) hK hP [0, 1, 2] rfl rfl rfl rfl rfl hl.1 rfl (Nat.le_of_ble_eq_true rfl) dL_holds_214 ⟨Nat.zero_le _, Nat.zero_le _⟩ (fun r214 h214 => ?_)
                                      subst h214
                                      refine zi_top (v := nI (nb (becL x_ k_ (mN m_)) y_)) (by rw [qByCut_v hn hbM (by omega) (by omega), hxk]) ?_
                                      refine lv_aload_n hx hb dL_holds_217 rfl (lv_at hl 0 rfl) ?_
                                      refine lv_iload hx hb dL_holds_218 (lv_at hl 6 rfl) ?_
                                      refine lv_iconst (v := nI 1) hx hb dL_holds_220 (by decide) ?_
                                      refine lv_iload hx hb dL_holds_221 (lv_at hl 12 rfl) ?_
                                      refine zcRi (As := [.int (kI g_), .int (nI 1), .int (nI y_)]) (rest := [.int (nI (nb (becL x_ k_ (mN m_)) y_))]) ⟨hx, hb, hml, hown, hts⟩ (c_X7_image l D cy ad m_ pl_ (kI g_) (nI 1) (nI y_) (by omega)) (cwV 3 hts (zG_V zw_146 zw_147 zw_148 zw_2 zw_149) rfl rfl rfl zd_X7_image ⟨Nat.le_of_ble_eq_true rfl, Nat.le_of_ble_eq_true rfl⟩) hK hP [0, 1, 2] rfl rfl rfl rfl rfl hl.1 rfl (Nat.le_of_ble_eq_true rfl) dL_holds_223 ⟨Nat.zero_le _, Nat.zero_le _⟩ (fun r223 h223 => ?_)
                                      subst h223
                                      refine zi_top (v := nI (nb x_ y_)) (by rw [qImage_1 hn (bMT_M hbM) (by omega), hxk]) ?_
                                      refine zb_ne (a := nb (becL x_ k_ (mN m_)) y_) (b := nb x_ y_) (tgt := 233) hx hb dL_holds_226 (by decide) (by omega) (by omega) (fun c226 => ?_) (fun c226 => ?_)
                                      · skip
                                        refine lv_iconst (v := nI 0) hx hb dL_holds_233 (by decide) ?_
                                        refine lv_istore (lv' := [(11, .int (nI 0)), (0, .ref (ad 0)), (1, .int w_), (2, .int (nI (mN m_))), (3, .int (nI Z_)), (4, .int (nI (mC m_))), (5, .int by_), (6, .int (kI g_)), (7, .int a_), (8, .int (nI o_)), (9, .int (nI u_)), (10, .int (nI k_)), (12, .int (nI y_))]) hx hb dL_holds_234 hl (by decide) rfl (fun ls hl => ?_)
                                        have e_ : nI 0 = (if chkA (kpF x_ k_ (mN m_)) (y_ + 1) = true then 1 else 0 : Int32) := chkA_0b (fun q_ => c226 (by simpa [kpF] using q_))
                                        rw [e_] at hl
                                        refine lv_iinc (v := nI (y_ + 1)) (lv' := [(12, .int (nI (y_ + 1))), (11, .int (if chkA (kpF x_ k_ (mN m_)) (y_ + 1) = true then 1 else 0)), (0, .ref (ad 0)), (1, .int w_), (2, .int (nI (mN m_))), (3, .int (nI Z_)), (4, .int (nI (mC m_))), (5, .int by_), (6, .int (kI g_)), (7, .int a_), (8, .int (nI o_)), (9, .int (nI u_)), (10, .int (nI k_))]) hx hb dL_holds_236 hl (k := 12) rfl (nI_1 _) (by decide) rfl (fun ls hl => ?_)
                                        refine lv_goto (tgt := 196) hx hb dL_holds_239 (by decide) ?_
                                        exact ih196 (y_ + 1) (by omega) (by omega) _ _ hP hD hS _ (lv_sub hl [2, 3, 4, 5, 6, 7, 8, 9, 10, 11, 12, 1, 0] rfl)
                                      · skip
                                        refine lv_iconst (v := nI 1) hx hb dL_holds_229 (by decide) ?_
                                        refine lv_goto (tgt := 234) hx hb dL_holds_230 (by decide) ?_
                                        refine lv_istore (lv' := [(11, .int (nI 1)), (0, .ref (ad 0)), (1, .int w_), (2, .int (nI (mN m_))), (3, .int (nI Z_)), (4, .int (nI (mC m_))), (5, .int by_), (6, .int (kI g_)), (7, .int a_), (8, .int (nI o_)), (9, .int (nI u_)), (10, .int (nI k_)), (12, .int (nI y_))]) hx hb dL_holds_234 hl (by decide) rfl (fun ls hl => ?_)
                                        have e_ : nI 1 = (if chkA (kpF x_ k_ (mN m_)) (y_ + 1) = true then 1 else 0 : Int32) := chkA_1 c204 (by show (nb (becL x_ k_ (mN m_)) y_ == nb x_ y_) = true; rw [c226]; simp)
                                        rw [e_] at hl
                                        refine lv_iinc (v := nI (y_ + 1)) (lv' := [(12, .int (nI (y_ + 1))), (11, .int (if chkA (kpF x_ k_ (mN m_)) (y_ + 1) = true then 1 else 0)), (0, .ref (ad 0)), (1, .int w_), (2, .int (nI (mN m_))), (3, .int (nI Z_)), (4, .int (nI (mC m_))), (5, .int by_), (6, .int (kI g_)), (7, .int a_), (8, .int (nI o_)), (9, .int (nI u_)), (10, .int (nI k_))]) hx hb dL_holds_236 hl (k := 12) rfl (nI_1 _) (by decide) rfl (fun ls hl => ?_)
                                        refine lv_goto (tgt := 196) hx hb dL_holds_239 (by decide) ?_
                                        exact ih196 (y_ + 1) (by omega) (by omega) _ _ hP hD hS _ (lv_sub hl [2, 3, 4, 5, 6, 7, 8, 9, 10, 11, 12, 1, 0] rfl)
                              exact L196 (mN m_ - 0 + 1) 0 (by omega) (Nat.lt_succ_self _) _ _ hP hD hS _ (lv_sub hl [2, 3, 4, 5, 6, 7, 8, 9, 10, 11, 12, 1, 0] rfl)
                      exact L179 (mN m_ - 0 + 1) 0 (by omega) (Nat.lt_succ_self _) _ _ hP hD hS _ (lv_sub hl [1, 2, 3, 4, 5, 6, 7, 8, 9, 10, 0] rfl)
                    · skip
                      have hpw : pw x_ by_.toInt p_ < mN m_ := pw_ltn hwx hn (by omega) _
                      refine lv_aload_n hx hb dL_holds_103 rfl (lv_at hl 0 rfl) ?_
                      refine lv_iload hx hb dL_holds_104 (lv_at hl 7 rfl) ?_
                      refine lv_iload hx hb dL_holds_106 (lv_at hl 8 rfl) ?_
                      refine lv_iload hx hb dL_holds_108 (lv_at hl 10 rfl) ?_
                      refine zcRi (As := [.int a_, .int (nI o_), .int (nI p_)]) (rest := []) ⟨hx, hb, hml, hown, hts⟩ (c_X7_image l D cy ad m_ pl_ a_ (nI o_) (nI p_) (by omega)) (cwV 3 hts (zG_V zw_146 zw_147 zw_148 zw_2 zw_149) rfl rfl rfl zd_X7_image ⟨Nat.le_of_ble_eq_true rfl, Nat.le_of_ble_eq_true rfl⟩) hK hP [0, 1, 2] rfl rfl rfl rfl rfl hl.1 rfl (Nat.le_of_ble_eq_true rfl) dL_holds_110 ⟨Nat.zero_le _, Nat.zero_le _⟩ (fun r110 h110 => ?_)
                      subst h110
                      refine zi_top (v := nI p_) (by rw [qImage_v hn ha (by omega) (by rw [nI_toInt (by omega)]; omega), nI_toInt (by omega), ← hx_, ho_]; exact congrArg nI (pw_ord hwx hn (by omega))) ?_
                      refine lv_iload hx hb dL_holds_113 (lv_at hl 10 rfl) ?_
                      refine zb_ne (a := p_) (b := p_) (tgt := 168) hx hb dL_holds_115 (by decide) (by omega) (by omega) (fun hd_ => absurd hd_ (by omega)) (fun c115 => ?_)
                      refine lv_aload_n hx hb dL_holds_118 rfl (lv_at hl 0 rfl) ?_
                      refine lv_iload hx hb dL_holds_119 (lv_at hl 7 rfl) ?_
                      refine lv_iload hx hb dL_holds_121 (lv_at hl 5 rfl) ?_
                      refine zi_neg (v := -by_) hx hb dL_holds_123 rfl ?_
                      refine lv_aload_n hx hb dL_holds_124 rfl (lv_at hl 0 rfl) ?_
                      refine lv_iload hx hb dL_holds_125 (lv_at hl 7 rfl) ?_
                      refine lv_iload hx hb dL_holds_127 (lv_at hl 5 rfl) ?_
                      refine lv_iload hx hb dL_holds_129 (lv_at hl 10 rfl) ?_
                      refine zcRi (As := [.int a_, .int by_, .int (nI p_)]) (rest := [.int (-by_), .int a_, .ref (ad 0)]) ⟨hx, hb, hml, hown, hts⟩ (c_X7_image l D cy ad m_ pl_ a_ by_ (nI p_) (by omega)) (cwV 3 hts (zG_V zw_146 zw_147 zw_148 zw_2 zw_149) rfl rfl rfl zd_X7_image ⟨Nat.le_of_ble_eq_true rfl, Nat.le_of_ble_eq_true rfl⟩) hK hP [0, 1, 2] rfl rfl rfl rfl rfl hl.1 rfl (Nat.le_of_ble_eq_true rfl) dL_holds_131 ⟨Nat.zero_le _, Nat.zero_le _⟩ (fun r131 h131 => ?_)
                      subst h131
                      refine zi_top (v := nI (pw x_ by_.toInt p_)) (by rw [qImage_v hn ha (by omega) (by omega), ← hx_]) ?_
                      refine zcRi (As := [.int a_, .int (-by_), .int (nI (pw x_ by_.toInt p_))]) (rest := []) ⟨hx, hb, hml, hown, hts⟩ (c_X7_image l D cy ad m_ pl_ a_ (-by_) (nI (pw x_ by_.toInt p_)) (by omega)) (cwV 3 hts (zG_V zw_146 zw_147 zw_148 zw_2 zw_149) rfl rfl rfl zd_X7_image ⟨Nat.le_of_ble_eq_true rfl, Nat.le_of_ble_eq_true rfl⟩) hK hP [0, 1, 2] rfl rfl rfl rfl rfl hl.1 rfl (Nat.le_of_ble_eq_true rfl) dL_holds_134 ⟨Nat.zero_le _, Nat.zero_le _⟩ (fun r134 h134 => ?_)
                      subst h134
                      refine zi_top (v := nI p_) (by rw [qImage_v hn ha (pw_ltn hwx hn (by omega) _) (by rw [hneg_]; omega), hneg_, ← hx_, pw_back hwx.1 (show p_ < 16 by omega)]) ?_
                      refine lv_iload hx hb dL_holds_137 (lv_at hl 10 rfl) ?_
                      refine zb_ne (a := p_) (b := p_) (tgt := 168) hx hb dL_holds_139 (by decide) (by omega) (by omega) (fun hd_ => absurd hd_ (by omega)) (fun c139 => ?_)
                      refine lv_aload_n hx hb dL_holds_142 rfl (lv_at hl 0 rfl) ?_
                      refine lv_iload hx hb dL_holds_143 (lv_at hl 7 rfl) ?_
                      refine lv_iload hx hb dL_holds_145 (lv_at hl 5 rfl) ?_
                      refine lv_iload hx hb dL_holds_147 (lv_at hl 8 rfl) ?_
                      refine zi_add (v := by_ + (nI o_)) hx hb dL_holds_149 rfl ?_
                      refine lv_iload hx hb dL_holds_150 (lv_at hl 10 rfl) ?_
                      refine zcRi (As := [.int a_, .int (by_ + (nI o_)), .int (nI p_)]) (rest := []) ⟨hx, hb, hml, hown, hts⟩ (c_X7_image l D cy ad m_ pl_ a_ (by_ + (nI o_)) (nI p_) (by omega)) (cwV 3 hts (zG_V zw_146 zw_147 zw_148 zw_2 zw_149) rfl rfl rfl zd_X7_image ⟨Nat.le_of_ble_eq_true rfl, Nat.le_of_ble_eq_true rfl⟩) hK hP [0, 1, 2] rfl rfl rfl rfl rfl hl.1 rfl (Nat.le_of_ble_eq_true rfl) dL_holds_152 ⟨Nat.zero_le _, Nat.zero_le _⟩ (fun r152 h152 => ?_)
                      subst h152
                      refine zi_top (v := nI (pw x_ by_.toInt p_)) (by rw [qImage_v hn ha (by omega) (by rw [hadd_]; omega), hadd_, ← hx_, ho_, pw_turn hwx hn (show p_ < mN m_ by omega)]) ?_
                      refine lv_aload_n hx hb dL_holds_155 rfl (lv_at hl 0 rfl) ?_
                      refine lv_iload hx hb dL_holds_156 (lv_at hl 7 rfl) ?_
                      refine lv_iload hx hb dL_holds_158 (lv_at hl 5 rfl) ?_
                      refine lv_iload hx hb dL_holds_160 (lv_at hl 10 rfl) ?_
                      refine zcRi (As := [.int a_, .int by_, .int (nI p_)]) (rest := [.int (nI (pw x_ by_.toInt p_))]) ⟨hx, hb, hml, hown, hts⟩ (c_X7_image l D cy ad m_ pl_ a_ by_ (nI p_) (by omega)) (cwV 3 hts (zG_V zw_146 zw_147 zw_148 zw_2 zw_149) rfl rfl rfl zd_X7_image ⟨Nat.le_of_ble_eq_true rfl, Nat.le_of_ble_eq_true rfl⟩) hK hP [0, 1, 2] rfl rfl rfl rfl rfl hl.1 rfl (Nat.le_of_ble_eq_true rfl) dL_holds_162 ⟨Nat.zero_le _, Nat.zero_le _⟩ (fun r162 h162 => ?_)
                      subst h162
                      refine zi_top (v := nI (pw x_ by_.toInt p_)) (by rw [qImage_v hn ha (by omega) (by omega), ← hx_]) ?_
                      refine zb_eq (a := pw x_ by_.toInt p_) (b := pw x_ by_.toInt p_) (tgt := 170) hx hb dL_holds_165 (by decide) (by omega) (by omega) (fun c165 => ?_) (fun hd_ => absurd hd_ (by omega))
                      refine lv_iinc (v := nI (p_ + 1)) (lv' := [(10, .int (nI (p_ + 1))), (0, .ref (ad 0)), (1, .int w_), (2, .int (nI (mN m_))), (3, .int (nI Z_)), (4, .int (nI (mC m_))), (5, .int by_), (6, .int (kI g_)), (7, .int a_), (8, .int (nI o_)), (9, .int (nI u_))]) hx hb dL_holds_170 hl (k := 10) rfl (nI_1 _) (by decide) rfl (fun ls hl => ?_)
                      refine lv_goto (tgt := 97) hx hb dL_holds_173 (by decide) ?_
                      exact ih97 (p_ + 1) (by omega) (by omega) _ _ hP hD hS _ (lv_sub hl [1, 2, 3, 4, 5, 6, 7, 8, 9, 10, 0] rfl)
                exact L97 (mN m_ - 0 + 1) 0 (by omega) (Nat.lt_succ_self _) _ _ hP hD hS _ (lv_sub hl [4, 5, 6, 7, 8, 9, 10, 3, 2, 1, 0] rfl)
              refine lv_iload hx hb dL_holds_62 (lv_at hl 6 rfl) ?_
              refine zt0_ge (a := ((g_ : Nat) : Int) - 1) (tgt := 72) hx hb dL_holds_64 (by decide) (kI_t (by omega)) (fun c64 => ?_) (fun c64 => ?_)
              · skip
                refine lv_iload hx hb dL_holds_72 (lv_at hl 6 rfl) ?_
                exact J74 (kI g_) (bMT_M (kI_M hC6 (by omega) (by omega))) (fun _ => rfl) _ _ hP hD hS _ (lv_sub hl [0, 1, 2, 3, 4, 5, 6] rfl)
              · skip
                refine lv_bipush (v := (-6)) hx hb dL_holds_67 (by decide) ?_
                refine lv_goto (tgt := 74) hx hb dL_holds_69 (by decide) ?_
                exact J74 (-6) (bMT_6 m_) (fun q_ => absurd q_ (by omega)) _ _ hP hD hS _ (lv_sub hl [0, 1, 2, 3, 4, 5, 6] rfl)
        exact L55 (mC m_ + 1 - 0 + 1) 0 c_ (by omega) (Nat.lt_succ_self _) _ _ hP hD hS _ (lv_sub hl [2, 3, 4, 5, 6, 1, 0] rfl)
      · skip
        refine lv_iload_n hx hb dL_holds_24 rfl (lv_at hl 3 rfl) ?_
        refine lv_iconst (v := nI 1) hx hb dL_holds_25 (by decide) ?_
        refine lv_aload_n hx hb dL_holds_26 rfl (lv_at hl 0 rfl) ?_
        refine lv_iload hx hb dL_holds_27 (lv_at hl 5 rfl) ?_
        refine zcRi (As := [.int (nI i_)]) (rest := [.int (nI 1), .int (nI (crd (mP m_) i_))]) ⟨hx, hb, hml, hown, hts⟩ (c_X7_at l D cy ad m_ pl_ (nI i_) (by omega)) (cwV 1 hts (zG_V zw_135 zw_136 zw_137 zw_2 zw_138) rfl rfl rfl zd_X7_at ⟨Nat.le_of_ble_eq_true rfl, Nat.le_of_ble_eq_true rfl⟩) hK hP [0, 1] rfl rfl rfl rfl rfl hl.1 rfl (Nat.le_of_ble_eq_true rfl) dL_holds_29 ⟨Nat.zero_le _, Nat.zero_le _⟩ (fun r29 h29 => ?_)
        subst h29
        refine zi_top (v := nI (fr (mP m_) i_)) (qAt_v hn (by omega)) ?_
        have hf32 := fr_lt (mP m_) i_
        refine zi_shl (v := nI (2 ^ (fr (mP m_) i_))) hx hb dL_holds_32 (zz_shl1 (by omega)) ?_
        refine zi_or (v := nI (crd (mP m_) (i_ + 1))) hx hb dL_holds_33 (fa_or _ _) ?_
        refine lv_istore_n (lv' := [(3, .int (nI (crd (mP m_) (i_ + 1)))), (0, .ref (ad 0)), (1, .int w_), (2, .int (nI (mN m_))), (4, .int (nI (mC m_))), (5, .int (nI i_))]) hx hb dL_holds_34 rfl hl (by decide) rfl (fun ls hl => ?_)
        refine lv_iinc (v := nI (i_ + 1)) (lv' := [(5, .int (nI (i_ + 1))), (3, .int (nI (crd (mP m_) (i_ + 1)))), (0, .ref (ad 0)), (1, .int w_), (2, .int (nI (mN m_))), (4, .int (nI (mC m_)))]) hx hb dL_holds_35 hl (k := 5) rfl (nI_1 _) (by decide) rfl (fun ls hl => ?_)
        refine lv_goto (tgt := 18) hx hb dL_holds_38 (by decide) ?_
        exact ih18 (i_ + 1) (by omega) (by omega) _ _ hP hD hS _ (lv_sub hl [2, 3, 4, 1, 5, 0] rfl)
  exact L18 (mN m_ - 0 + 1) 0 (by omega) (Nat.lt_succ_self _) _ _ hP hD hS _ (lv_sub hl [4, 5, 3, 2, 1, 0] rfl)

abbrev w_L_told : List Cond := Cond.code yL_told cL_told 5 (some .long) :: zAll
abbrev r_L_told : Room := { frames := 4, cells := 0, slots := 0, locals := 96 }
theorem zd_L_told : yL_told.cls ≠ "java/lang/invoke/MethodHandle" ∧ yL_told.cls ≠ "java/lang/invoke/VarHandle" ∧ (parseMethodDescriptor yL_told.desc).map (fun d => d.parameters.length) = some 1 := by decide +kernel
set_option maxHeartbeats 4000000 in
set_option maxRecDepth 100000 in
theorem c_L_told (l : Launch) (D : va_G) (cy : Nat → ClassId) (ad : Nat → Nat) (m_ : MT) (pl_ : Nat) (hw : TVok m_.1) : zMl l yL_told w_L_told r_L_told D cy [((ad 0), .inr (4, [.ref (ad 1), .ref (ad 3), .ref (ad 18), .ref (ad 25), .ref (ad 27), .ref (ad 28), .int (nI pl_), .int (nI (mU m_)), .int (nI (mX m_))])), ((ad 1), .inr (3, [.int (nI (mN m_)), .long (mP m_), .long (mT m_), .int (nI (mC m_)), .ref (ad 2)])), ((ad 2), .inl (cy 1, 6, .inr (.inl (mM m_))))] [.ref (ad 0)] (fun r_ => r_ = (tdA m_ pl_)) := by
  refine zOfRl (cc := cL_told) (maxL := 5) (by decide) rfl (Nat.le_of_ble_eq_true rfl) ?_
  intro zp ze zs zm za zb zme zc hx hb hml hts hown hP hK Q kr ls hl
  have hown : zs.vm.findClass RL = some zm.cls := hown
  have hl : lv_has ls 5 [(0, .ref (ad 0))] := hl
  have hn2 := ok_2 hw
  have hn := ok_n hw
  have hC6 := ok_C hw
  have hwP := ok_P hw
  have hwT := ok_T hw
  refine lv_ldc2 hx hb hown (hts _ (List.mem_cons_of_mem _ zw_110)) dL_told_0 ?_
  refine zl_top (v := tdC m_ pl_ 0) rfl ?_
  refine lv_lstore_n (lv' := [(1, .long (tdC m_ pl_ 0)), (0, .ref (ad 0))]) hx hb dL_told_3 rfl hl (by decide) rfl (fun ls hl => ?_)
  refine lv_iconst (v := nI 0) hx hb dL_told_4 (by decide) ?_
  refine lv_istore_n (lv' := [(3, .int (nI 0)), (1, .long (tdC m_ pl_ 0)), (0, .ref (ad 0))]) hx hb dL_told_5 rfl hl (by decide) rfl (fun ls hl => ?_)
  have L6 : ∀ (kf_ : Nat) (i_ : Nat) (hi : i_ ≤ 5), 5 - i_ < kf_ → ∀ ls : Array Slot, lv_has ls 5 [(0, .ref (ad 0)), (1, .long (tdC m_ pl_ i_)), (3, .int (nI i_))] → W zp l ze r_L_told zs zm za zb zme zc zs.heap [] 0 0 Q (F0 zm 6 ls []) := by
    intro kf_
    induction kf_ with
    | zero => intro i_ hi hk_; exact absurd hk_ (Nat.not_lt_zero _)
    | succ kf_ ih6 =>
      intro i_ hi hk_ ls hl
      refine lv_iload_n hx hb dL_told_6 rfl (lv_at hl 2 rfl) ?_
      refine lv_iconst (v := nI 5) hx hb dL_told_7 (by decide) ?_
      refine zb_ge (a := i_) (b := 5) (tgt := 30) hx hb dL_told_8 (by decide) (by omega) (by omega) (fun c8 => ?_) (fun c8 => ?_)
      · skip
        have ei_ : i_ = 5 := by omega
        rw [ei_] at hl
        have hl : lv_has ls 5 [(0, .ref (ad 0)), (1, .long (tdP m_ pl_ 0)), (3, .int (nI 5))] := hl
        refine lv_iconst (v := nI 0) hx hb dL_told_30 (by decide) ?_
        refine lv_istore_n (lv' := [(3, .int (nI 0)), (0, .ref (ad 0)), (1, .long (tdP m_ pl_ 0))]) hx hb dL_told_31 rfl hl (by decide) rfl (fun ls hl => ?_)
        have L32 : ∀ (kf_ : Nat) (p_ : Nat) (hp : p_ ≤ mN m_), mN m_ - p_ < kf_ → ∀ ls : Array Slot, lv_has ls 5 [(0, .ref (ad 0)), (1, .long (tdP m_ pl_ p_)), (3, .int (nI p_))] → W zp l ze r_L_told zs zm za zb zme zc zs.heap [] 0 0 Q (F0 zm 32 ls []) := by
          intro kf_
          induction kf_ with
          | zero => intro p_ hp hk_; exact absurd hk_ (Nat.not_lt_zero _)
          | succ kf_ ih32 =>
            intro p_ hp hk_ ls hl
            refine lv_iload_n hx hb dL_told_32 rfl (lv_at hl 2 rfl) ?_
            refine lv_aload_n hx hb dL_told_33 rfl (lv_at hl 0 rfl) ?_
            refine lv_iconst (v := nI 0) hx hb dL_told_34 (by decide) ?_
            refine zcRi (As := [.int (nI 0)]) (rest := [.int (nI p_)]) ⟨hx, hb, hml, hown, hts⟩ (c_X7_count l D cy ad m_ pl_ (nI 0) (by omega)) (cwV 1 hts (zG_V zw_112 zw_113 zw_114 zw_2 zw_115) rfl rfl rfl zd_X7_count ⟨Nat.le_of_ble_eq_true rfl, Nat.le_of_ble_eq_true rfl⟩) hK hP [0, 1] rfl rfl rfl rfl rfl hl.1 rfl (Nat.le_of_ble_eq_true rfl) dL_told_35 ⟨Nat.zero_le _, Nat.zero_le _⟩ (fun r35 h35 => ?_)
            subst h35
            refine zi_top (v := nI (mN m_)) (qC0 _ _) ?_
            refine zb_ge (a := p_) (b := mN m_) (tgt := 109) hx hb dL_told_38 (by decide) (by omega) (by omega) (fun c38 => ?_) (fun c38 => ?_)
            · skip
              refine lv_ldc2 hx hb hown (hts _ (List.mem_cons_of_mem _ zw_111)) dL_told_109 ?_
              refine lv_ldc2 hx hb hown (hts _ (List.mem_cons_of_mem _ zw_111)) dL_told_112 ?_
              refine lv_lload_n hx hb dL_told_115 rfl (lv_at hl 1 rfl) ?_
              refine zl_mul (v := (31 : Int64) * (tdP m_ pl_ p_)) hx hb dL_told_116 rfl ?_
              refine lv_aload_n hx hb dL_told_117 rfl (lv_at hl 0 rfl) ?_
              refine zcRi (As := []) (rest := [.long ((31 : Int64) * (tdP m_ pl_ p_)), .long ((31 : Int64))]) ⟨hx, hb, hml, hown, hts⟩ (c_X7_share l D cy ad m_ pl_ (by omega)) (cwV 0 hts (zG_V zw_179 zw_180 zw_181 zw_2 zw_182) rfl rfl rfl zd_X7_share ⟨Nat.le_of_ble_eq_true rfl, Nat.le_of_ble_eq_true rfl⟩) hK hP [0, 1] rfl rfl rfl rfl rfl hl.1 rfl (Nat.le_of_ble_eq_true rfl) dL_told_118 ⟨Nat.zero_le _, Nat.zero_le _⟩ (fun r118 h118 => ?_)
              subst h118
              refine lv_i2l (v := (qShare m_).toInt64) hx hb dL_told_121 rfl ?_
              refine zl_add (v := ((31 : Int64) * (tdP m_ pl_ p_)) + ((qShare m_).toInt64)) hx hb dL_told_122 rfl ?_
              refine zl_mul (v := (31 : Int64) * (((31 : Int64) * (tdP m_ pl_ p_)) + ((qShare m_).toInt64))) hx hb dL_told_123 rfl ?_
              refine lv_aload_n hx hb dL_told_124 rfl (lv_at hl 0 rfl) ?_
              refine zcRl (As := []) (rest := [.long ((31 : Int64) * (((31 : Int64) * (tdP m_ pl_ p_)) + ((qShare m_).toInt64)))]) ⟨hx, hb, hml, hown, hts⟩ (c_X7_spread l D cy ad m_ pl_ (by omega)) (cwV 0 hts (zG_V zw_188 zw_189 zw_190 zw_2 zw_191) rfl rfl rfl zd_X7_spread ⟨Nat.le_of_ble_eq_true rfl, Nat.le_of_ble_eq_true rfl⟩) hK hP [0, 1] rfl rfl rfl rfl rfl hl.1 rfl (Nat.le_of_ble_eq_true rfl) dL_told_125 ⟨Nat.zero_le _, Nat.zero_le _⟩ (fun r125 h125 => ?_)
              subst h125
              refine zl_add (v := ((31 : Int64) * (((31 : Int64) * (tdP m_ pl_ p_)) + ((qShare m_).toInt64))) + (qSpread m_)) hx hb dL_told_128 rfl ?_
              exact kr _ _ _ dL_told_129 (by rw [show p_ = mN m_ by omega]; rfl)
            · skip
              refine lv_ldc2 hx hb hown (hts _ (List.mem_cons_of_mem _ zw_111)) dL_told_41 ?_
              refine lv_ldc2 hx hb hown (hts _ (List.mem_cons_of_mem _ zw_111)) dL_told_44 ?_
              refine lv_lload_n hx hb dL_told_47 rfl (lv_at hl 1 rfl) ?_
              refine zl_mul (v := (31 : Int64) * (tdP m_ pl_ p_)) hx hb dL_told_48 rfl ?_
              refine lv_aload_n hx hb dL_told_49 rfl (lv_at hl 0 rfl) ?_
              refine lv_iload_n hx hb dL_told_50 rfl (lv_at hl 2 rfl) ?_
              refine zcRi (As := [.int (nI p_)]) (rest := [.long ((31 : Int64) * (tdP m_ pl_ p_)), .long ((31 : Int64))]) ⟨hx, hb, hml, hown, hts⟩ (c_X7_at l D cy ad m_ pl_ (nI p_) (by omega)) (cwV 1 hts (zG_V zw_135 zw_136 zw_137 zw_2 zw_138) rfl rfl rfl zd_X7_at ⟨Nat.le_of_ble_eq_true rfl, Nat.le_of_ble_eq_true rfl⟩) hK hP [0, 1] rfl rfl rfl rfl rfl hl.1 rfl (Nat.le_of_ble_eq_true rfl) dL_told_51 ⟨Nat.zero_le _, Nat.zero_le _⟩ (fun r51 h51 => ?_)
              subst h51
              refine lv_i2l (v := (qAt m_ (nI p_)).toInt64) hx hb dL_told_54 rfl ?_
              refine zl_add (v := ((31 : Int64) * (tdP m_ pl_ p_)) + ((qAt m_ (nI p_)).toInt64)) hx hb dL_told_55 rfl ?_
              refine zl_mul (v := (31 : Int64) * (((31 : Int64) * (tdP m_ pl_ p_)) + ((qAt m_ (nI p_)).toInt64))) hx hb dL_told_56 rfl ?_
              refine lv_aload_n hx hb dL_told_57 rfl (lv_at hl 0 rfl) ?_
              refine lv_bipush (v := (-6)) hx hb dL_told_58 (by decide) ?_
              refine lv_iconst (v := nI 1) hx hb dL_told_60 (by decide) ?_
              refine lv_iload_n hx hb dL_told_61 rfl (lv_at hl 2 rfl) ?_
              refine zcRi (As := [.int (-6), .int (nI 1), .int (nI p_)]) (rest := [.long ((31 : Int64) * (((31 : Int64) * (tdP m_ pl_ p_)) + ((qAt m_ (nI p_)).toInt64)))]) ⟨hx, hb, hml, hown, hts⟩ (c_X7_image l D cy ad m_ pl_ (-6) (nI 1) (nI p_) (by omega)) (cwV 3 hts (zG_V zw_146 zw_147 zw_148 zw_2 zw_149) rfl rfl rfl zd_X7_image ⟨Nat.le_of_ble_eq_true rfl, Nat.le_of_ble_eq_true rfl⟩) hK hP [0, 1, 2] rfl rfl rfl rfl rfl hl.1 rfl (Nat.le_of_ble_eq_true rfl) dL_told_62 ⟨Nat.zero_le _, Nat.zero_le _⟩ (fun r62 h62 => ?_)
              subst h62
              refine lv_i2l (v := (qImage m_ (-6) (nI 1) (nI p_)).toInt64) hx hb dL_told_65 rfl ?_
              refine zl_add (v := tdK m_ p_ (tdH m_ p_ (tdP m_ pl_ p_)) 0) hx hb dL_told_66 rfl ?_
              refine lv_lstore_n (lv' := [(1, .long (tdK m_ p_ (tdH m_ p_ (tdP m_ pl_ p_)) 0)), (0, .ref (ad 0)), (3, .int (nI p_))]) hx hb dL_told_67 rfl hl (by decide) rfl (fun ls hl => ?_)
              refine lv_iconst (v := nI 0) hx hb dL_told_68 (by decide) ?_
              refine lv_istore (lv' := [(4, .int (nI 0)), (1, .long (tdK m_ p_ (tdH m_ p_ (tdP m_ pl_ p_)) 0)), (0, .ref (ad 0)), (3, .int (nI p_))]) hx hb dL_told_69 hl (by decide) rfl (fun ls hl => ?_)
              have L71 : ∀ (kf_ : Nat) (k_ : Nat) (hk : k_ ≤ mC m_), mC m_ - k_ < kf_ → ∀ ls : Array Slot, lv_has ls 5 [(0, .ref (ad 0)), (1, .long (tdK m_ p_ (tdH m_ p_ (tdP m_ pl_ p_)) k_)), (3, .int (nI p_)), (4, .int (nI k_))] → W zp l ze r_L_told zs zm za zb zme zc zs.heap [] 0 0 Q (F0 zm 71 ls []) := by
                intro kf_
                induction kf_ with
                | zero => intro k_ hk hk_; exact absurd hk_ (Nat.not_lt_zero _)
                | succ kf_ ih71 =>
                  intro k_ hk hk_ ls hl
                  refine lv_iload hx hb dL_told_71 (lv_at hl 3 rfl) ?_
                  refine lv_aload_n hx hb dL_told_73 rfl (lv_at hl 0 rfl) ?_
                  refine lv_iconst (v := nI 1) hx hb dL_told_74 (by decide) ?_
                  refine zcRi (As := [.int (nI 1)]) (rest := [.int (nI k_)]) ⟨hx, hb, hml, hown, hts⟩ (c_X7_count l D cy ad m_ pl_ (nI 1) (by omega)) (cwV 1 hts (zG_V zw_112 zw_113 zw_114 zw_2 zw_115) rfl rfl rfl zd_X7_count ⟨Nat.le_of_ble_eq_true rfl, Nat.le_of_ble_eq_true rfl⟩) hK hP [0, 1] rfl rfl rfl rfl rfl hl.1 rfl (Nat.le_of_ble_eq_true rfl) dL_told_75 ⟨Nat.zero_le _, Nat.zero_le _⟩ (fun r75 h75 => ?_)
                  subst h75
                  refine zi_top (v := nI (mC m_)) (qC1 _ _) ?_
                  refine zb_ge (a := k_) (b := mC m_) (tgt := 103) hx hb dL_told_78 (by decide) (by omega) (by omega) (fun c78 => ?_) (fun c78 => ?_)
                  · skip
                    have ek_ : k_ = mC m_ := by omega
                    rw [ek_] at hl
                    have hl : lv_has ls 5 [(0, .ref (ad 0)), (1, .long (tdP m_ pl_ (p_ + 1))), (3, .int (nI p_)), (4, .int (nI (mC m_)))] := hl
                    refine lv_iinc (v := nI (p_ + 1)) (lv' := [(3, .int (nI (p_ + 1))), (0, .ref (ad 0)), (1, .long (tdP m_ pl_ (p_ + 1))), (4, .int (nI (mC m_)))]) hx hb dL_told_103 hl (k := 2) rfl (nI_1 _) (by decide) rfl (fun ls hl => ?_)
                    refine lv_goto (tgt := 32) hx hb dL_told_106 (by decide) ?_
                    exact ih32 (p_ + 1) (by omega) (by omega) _ (lv_sub hl [1, 2, 0] rfl)
                  · skip
                    refine lv_ldc2 hx hb hown (hts _ (List.mem_cons_of_mem _ zw_111)) dL_told_81 ?_
                    refine lv_lload_n hx hb dL_told_84 rfl (lv_at hl 1 rfl) ?_
                    refine zl_mul (v := (31 : Int64) * (tdK m_ p_ (tdH m_ p_ (tdP m_ pl_ p_)) k_)) hx hb dL_told_85 rfl ?_
                    refine lv_aload_n hx hb dL_told_86 rfl (lv_at hl 0 rfl) ?_
                    refine lv_iload hx hb dL_told_87 (lv_at hl 3 rfl) ?_
                    refine lv_iconst (v := nI 1) hx hb dL_told_89 (by decide) ?_
                    refine lv_iload_n hx hb dL_told_90 rfl (lv_at hl 2 rfl) ?_
                    refine zcRi (As := [.int (nI k_), .int (nI 1), .int (nI p_)]) (rest := [.long ((31 : Int64) * (tdK m_ p_ (tdH m_ p_ (tdP m_ pl_ p_)) k_))]) ⟨hx, hb, hml, hown, hts⟩ (c_X7_image l D cy ad m_ pl_ (nI k_) (nI 1) (nI p_) (by omega)) (cwV 3 hts (zG_V zw_146 zw_147 zw_148 zw_2 zw_149) rfl rfl rfl zd_X7_image ⟨Nat.le_of_ble_eq_true rfl, Nat.le_of_ble_eq_true rfl⟩) hK hP [0, 1, 2] rfl rfl rfl rfl rfl hl.1 rfl (Nat.le_of_ble_eq_true rfl) dL_told_91 ⟨Nat.zero_le _, Nat.zero_le _⟩ (fun r91 h91 => ?_)
                    subst h91
                    refine lv_i2l (v := (qImage m_ (nI k_) (nI 1) (nI p_)).toInt64) hx hb dL_told_94 rfl ?_
                    refine zl_add (v := tdK m_ p_ (tdH m_ p_ (tdP m_ pl_ p_)) (k_ + 1)) hx hb dL_told_95 rfl ?_
                    refine lv_lstore_n (lv' := [(1, .long (tdK m_ p_ (tdH m_ p_ (tdP m_ pl_ p_)) (k_ + 1))), (0, .ref (ad 0)), (3, .int (nI p_)), (4, .int (nI k_))]) hx hb dL_told_96 rfl hl (by decide) rfl (fun ls hl => ?_)
                    refine lv_iinc (v := nI (k_ + 1)) (lv' := [(4, .int (nI (k_ + 1))), (1, .long (tdK m_ p_ (tdH m_ p_ (tdP m_ pl_ p_)) (k_ + 1))), (0, .ref (ad 0)), (3, .int (nI p_))]) hx hb dL_told_97 hl (k := 3) rfl (nI_1 _) (by decide) rfl (fun ls hl => ?_)
                    refine lv_goto (tgt := 71) hx hb dL_told_100 (by decide) ?_
                    exact ih71 (k_ + 1) (by omega) (by omega) _ (lv_sub hl [2, 1, 3, 0] rfl)
              exact L71 (mC m_ - 0 + 1) 0 (by omega) (Nat.lt_succ_self _) _ (lv_sub hl [2, 1, 3, 0] rfl)
        exact L32 (mN m_ - 0 + 1) 0 (by omega) (Nat.lt_succ_self _) _ (lv_sub hl [1, 2, 0] rfl)
      · skip
        refine lv_ldc2 hx hb hown (hts _ (List.mem_cons_of_mem _ zw_111)) dL_told_11 ?_
        refine lv_lload_n hx hb dL_told_14 rfl (lv_at hl 1 rfl) ?_
        refine zl_mul (v := (31 : Int64) * (tdC m_ pl_ i_)) hx hb dL_told_15 rfl ?_
        refine lv_aload_n hx hb dL_told_16 rfl (lv_at hl 0 rfl) ?_
        refine lv_iload_n hx hb dL_told_17 rfl (lv_at hl 2 rfl) ?_
        refine zcRi (As := [.int (nI i_)]) (rest := [.long ((31 : Int64) * (tdC m_ pl_ i_))]) ⟨hx, hb, hml, hown, hts⟩ (c_X7_count l D cy ad m_ pl_ (nI i_) (by omega)) (cwV 1 hts (zG_V zw_112 zw_113 zw_114 zw_2 zw_115) rfl rfl rfl zd_X7_count ⟨Nat.le_of_ble_eq_true rfl, Nat.le_of_ble_eq_true rfl⟩) hK hP [0, 1] rfl rfl rfl rfl rfl hl.1 rfl (Nat.le_of_ble_eq_true rfl) dL_told_18 ⟨Nat.zero_le _, Nat.zero_le _⟩ (fun r18 h18 => ?_)
        subst h18
        refine lv_i2l (v := (qCount m_ pl_ (nI i_)).toInt64) hx hb dL_told_21 rfl ?_
        refine zl_add (v := tdC m_ pl_ (i_ + 1)) hx hb dL_told_22 rfl ?_
        refine lv_lstore_n (lv' := [(1, .long (tdC m_ pl_ (i_ + 1))), (0, .ref (ad 0)), (3, .int (nI i_))]) hx hb dL_told_23 rfl hl (by decide) rfl (fun ls hl => ?_)
        refine lv_iinc (v := nI (i_ + 1)) (lv' := [(3, .int (nI (i_ + 1))), (1, .long (tdC m_ pl_ (i_ + 1))), (0, .ref (ad 0))]) hx hb dL_told_24 hl (k := 2) rfl (nI_1 _) (by decide) rfl (fun ls hl => ?_)
        refine lv_goto (tgt := 6) hx hb dL_told_27 (by decide) ?_
        exact ih6 (i_ + 1) (by omega) (by omega) _ (lv_sub hl [2, 1, 0] rfl)
  exact L6 (5 - 0 + 1) 0 (by omega) (Nat.lt_succ_self _) _ (lv_sub hl [2, 1, 0] rfl)

abbrev w_X8_powered : List Cond := Cond.code yX8_powered cX8_powered 7 (some .int) :: zAll
abbrev r_X8_powered : Room := { frames := 0, cells := 0, slots := 0, locals := 0 }
theorem zd_X8_powered : yX8_powered.cls = RX8 ∧ yX8_powered.cls ≠ "java/lang/invoke/MethodHandle" ∧ yX8_powered.cls ≠ "java/lang/invoke/VarHandle" ∧ (parseMethodDescriptor yX8_powered.desc).map (fun d => d.parameters.length) = some 3 := by decide +kernel
set_option maxHeartbeats 4000000 in
set_option maxRecDepth 100000 in
theorem c_X8_powered (l : Launch) (D : va_G) (cy : Nat → ClassId) (bd : Nat → Nat) (um_ : Nat) (ln_ : Nat) (at_ : Nat) (iw_ : Bool) (f_ : Nat → Nat) (ra_ : Nat) (rc_ : Nat → Nat) (x_ : Int64) (z_ : Int32) (p_ : Nat) (hN_ : f_ 0 ≤ 16) (hr_ : RowX (f_ 0) rc_ x_) (hwx : WF (f_ 0) x_) (hz : -999 ≤ z_.toInt ∧ z_.toInt ≤ 999) (hp : p_ < f_ 0) : zMi l yX8_powered w_X8_powered r_X8_powered D cy [((bd 0), .inr (5, [.int (nI 0), .ref (bd 1), .ref (bd 2), .int (nI um_), .ref (bd 3), .ref (bd 4), .ref (bd 5), .int (nI ln_), .int (nI at_), .int (if iw_ = true then 1 else 0), .ref (bd 6), .ref (bd 7), .ref (bd 8), .ref (bd 9), .ref (bd 10), .ref (bd 11), .ref (bd 12), .ref (bd 13), .ref (bd 14)])), ((bd 1), .inl (cy 0, 130, .inl (nIf f_))), (ra_, .inl (cy 0, 16, .inl (nIf rc_)))] [.ref (bd 0), .ref ra_, .int z_, .int (nI p_)] (fun r_ => r_ = (nI (pw x_ z_.toInt p_))) := by
  refine zOfR (cc := cX8_powered) (maxL := 7) (ty := .int) (by decide) rfl (Nat.le_of_ble_eq_true rfl) ?_
  intro zp ze zs zm za zb zme zc hx hb hml hts hown hP hK Q kr ls hl
  have hown : zs.vm.findClass RX8 = some zm.cls := hown
  have hl : lv_has ls 7 [(0, .ref (bd 0)), (1, .ref ra_), (2, .int z_), (3, .int (nI p_))] := hl
  refine lv_iload_n hx hb dX8_powered_0 rfl (lv_at hl 3 rfl) ?_
  refine zi_top (v := nI (it (nb x_) 0 p_)) rfl ?_
  refine lv_istore (lv' := [(4, .int (nI (it (nb x_) 0 p_))), (0, .ref (bd 0)), (1, .ref ra_), (2, .int z_), (3, .int (nI p_))]) hx hb dX8_powered_1 hl (by decide) rfl (fun ls hl => ?_)
  refine lv_iconst (v := nI 0) hx hb dX8_powered_3 (by decide) ?_
  refine lv_istore (lv' := [(5, .int (nI 0)), (4, .int (nI (it (nb x_) 0 p_))), (0, .ref (bd 0)), (1, .ref ra_), (2, .int z_), (3, .int (nI p_))]) hx hb dX8_powered_4 hl (by decide) rfl (fun ls hl => ?_)
  have L6 : ∀ (kf_ : Nat) (k_ : Nat) (hk : k_ ≤ z_.toInt.toNat), z_.toInt.toNat - k_ < kf_ → ∀ ls : Array Slot, lv_has ls 7 [(0, .ref (bd 0)), (1, .ref ra_), (2, .int z_), (3, .int (nI p_)), (4, .int (nI (it (nb x_) k_ p_))), (5, .int (nI k_))] → W zp l ze r_X8_powered zs zm za zb zme zc zs.heap [] 0 0 Q (F0 zm 6 ls []) := by
    intro kf_
    induction kf_ with
    | zero => intro k_ hk hk_; exact absurd hk_ (Nat.not_lt_zero _)
    | succ kf_ ih6 =>
      intro k_ hk hk_ ls hl
      refine lv_iload hx hb dX8_powered_6 (lv_at hl 5 rfl) ?_
      refine lv_iload_n hx hb dX8_powered_8 rfl (lv_at hl 2 rfl) ?_
      refine zt_ge (a := ((k_ : Nat) : Int)) (b := (z_).toInt) (tgt := 24) hx hb dX8_powered_9 (by decide) (nI_toInt (by omega)) rfl (fun c9 => ?_) (fun c9 => ?_)
      · skip
        have hk24 : k_ = z_.toInt.toNat := by omega
        rw [hk24, it_z (fr x_) (it (nb x_) z_.toInt.toNat p_)] at hl
        have hpp : it (nb x_) z_.toInt.toNat p_ < f_ 0 := itn_lt hwx hN_ hp
        refine lv_iconst (v := nI 0) hx hb dX8_powered_24 (by decide) ?_
        refine zi_top (v := Int32.ofInt (-((0 : Nat) : Int))) rfl ?_
        refine lv_istore (lv' := [(5, .int (Int32.ofInt (-((0 : Nat) : Int)))), (0, .ref (bd 0)), (1, .ref ra_), (2, .int z_), (3, .int (nI p_)), (4, .int (nI (it (fr x_) 0 (it (nb x_) z_.toInt.toNat p_))))]) hx hb dX8_powered_25 hl (by decide) rfl (fun ls hl => ?_)
        have L27 : ∀ (kf_ : Nat) (k_ : Nat) (hk : k_ ≤ (-z_.toInt).toNat), (-z_.toInt).toNat - k_ < kf_ → ∀ ls : Array Slot, lv_has ls 7 [(0, .ref (bd 0)), (1, .ref ra_), (2, .int z_), (3, .int (nI p_)), (4, .int (nI (it (fr x_) k_ (it (nb x_) z_.toInt.toNat p_)))), (5, .int (Int32.ofInt (-((k_ : Nat) : Int))))] → W zp l ze r_X8_powered zs zm za zb zme zc zs.heap [] 0 0 Q (F0 zm 27 ls []) := by
          intro kf_
          induction kf_ with
          | zero => intro k_ hk hk_; exact absurd hk_ (Nat.not_lt_zero _)
          | succ kf_ ih27 =>
            intro k_ hk hk_ ls hl
            refine lv_iload hx hb dX8_powered_27 (lv_at hl 5 rfl) ?_
            refine lv_iload_n hx hb dX8_powered_29 rfl (lv_at hl 2 rfl) ?_
            refine zt_le (a := -((k_ : Nat) : Int)) (b := (z_).toInt) (tgt := 61) hx hb dX8_powered_30 (by decide) (fb_ofI (by omega) (by omega)) rfl (fun c30 => ?_) (fun c30 => ?_)
            · skip
              refine lv_iload hx hb dX8_powered_61 (lv_at hl 4 rfl) ?_
              exact kr _ _ _ dX8_powered_63 (vp_nar_int _) (congrArg nI (powE (by omega)))
            · skip
              have hq33 : it (fr x_) k_ (it (nb x_) z_.toInt.toNat p_) < f_ 0 := itf_lt hwx hN_ hpp
              have hf33 := hwx.frLt hq33 hN_
              refine lv_iconst (v := nI 0) hx hb dX8_powered_33 (by decide) ?_
              refine lv_istore (lv' := [(6, .int (nI 0)), (0, .ref (bd 0)), (1, .ref ra_), (2, .int z_), (3, .int (nI p_)), (4, .int (nI (it (fr x_) k_ (it (nb x_) z_.toInt.toNat p_)))), (5, .int (Int32.ofInt (-((k_ : Nat) : Int))))]) hx hb dX8_powered_34 hl (by decide) rfl (fun ls hl => ?_)
              have L36 : ∀ (kf_ : Nat) (g_ : Nat) (hg : g_ ≤ fr x_ (it (fr x_) k_ (it (nb x_) z_.toInt.toNat p_))), fr x_ (it (fr x_) k_ (it (nb x_) z_.toInt.toNat p_)) - g_ < kf_ → ∀ ls : Array Slot, lv_has ls 7 [(0, .ref (bd 0)), (1, .ref ra_), (2, .int z_), (3, .int (nI p_)), (4, .int (nI (it (fr x_) k_ (it (nb x_) z_.toInt.toNat p_)))), (5, .int (Int32.ofInt (-((k_ : Nat) : Int)))), (6, .int (nI g_))] → W zp l ze r_X8_powered zs zm za zb zme zc zs.heap [] 0 0 Q (F0 zm 36 ls []) := by
                intro kf_
                induction kf_ with
                | zero => intro g_ hg hk_; exact absurd hk_ (Nat.not_lt_zero _)
                | succ kf_ ih36 =>
                  intro g_ hg hk_ ls hl
                  refine lv_aload_n hx hb dX8_powered_36 rfl (lv_at hl 1 rfl) ?_
                  refine lv_iload hx hb dX8_powered_37 (lv_at hl 6 rfl) ?_
                  refine zi_iald (v := nI (rc_ g_)) hx hb hK hP 2 rfl (by omega) (by omega) rfl dX8_powered_39 ?_
                  refine lv_iload hx hb dX8_powered_40 (lv_at hl 4 rfl) ?_
                  have hr42 : rc_ g_ < 16 := by rw [hr_ g_ (by omega)]; exact nb_lt _ _
                  refine zb_eq (a := rc_ g_) (b := it (fr x_) k_ (it (nb x_) z_.toInt.toNat p_)) (tgt := 51) hx hb dX8_powered_42 (by decide) (by omega) (by omega) (fun c42 => ?_) (fun c42 => ?_)
                  · skip
                    refine lv_iload hx hb dX8_powered_51 (lv_at hl 6 rfl) ?_
                    refine zi_top (v := nI (it (fr x_) (k_ + 1) (it (nb x_) z_.toInt.toNat p_))) (by rw [row_fr hr_ hwx hN_ hq33 hg c42, it_succ]) ?_
                    refine lv_istore (lv' := [(4, .int (nI (it (fr x_) (k_ + 1) (it (nb x_) z_.toInt.toNat p_)))), (0, .ref (bd 0)), (1, .ref ra_), (2, .int z_), (3, .int (nI p_)), (5, .int (Int32.ofInt (-((k_ : Nat) : Int)))), (6, .int (nI g_))]) hx hb dX8_powered_53 hl (by decide) rfl (fun ls hl => ?_)
                    refine lv_iinc (v := Int32.ofInt (-((k_ + 1 : Nat) : Int))) (lv' := [(5, .int (Int32.ofInt (-((k_ + 1 : Nat) : Int)))), (4, .int (nI (it (fr x_) (k_ + 1) (it (nb x_) z_.toInt.toNat p_)))), (0, .ref (bd 0)), (1, .ref ra_), (2, .int z_), (3, .int (nI p_)), (6, .int (nI g_))]) hx hb dX8_powered_55 hl (k := 5) rfl (ofI_dec (by omega)) (by decide) rfl (fun ls hl => ?_)
                    refine lv_goto (tgt := 27) hx hb dX8_powered_58 (by decide) ?_
                    exact ih27 (k_ + 1) (by omega) (by omega) _ (lv_sub hl [2, 3, 4, 5, 1, 0] rfl)
                  · skip
                    refine lv_iinc (v := nI (g_ + 1)) (lv' := [(6, .int (nI (g_ + 1))), (0, .ref (bd 0)), (1, .ref ra_), (2, .int z_), (3, .int (nI p_)), (4, .int (nI (it (fr x_) k_ (it (nb x_) z_.toInt.toNat p_)))), (5, .int (Int32.ofInt (-((k_ : Nat) : Int))))]) hx hb dX8_powered_45 hl (k := 6) rfl (nI_1 _) (by decide) rfl (fun ls hl => ?_)
                    refine lv_goto (tgt := 36) hx hb dX8_powered_48 (by decide) ?_
                    exact ih36 (g_ + 1) (row_nf hr_ hwx hN_ hq33 hg c42) (by have := row_nf hr_ hwx hN_ hq33 hg c42; omega) _ (lv_sub hl [1, 2, 3, 4, 5, 6, 0] rfl)
              exact L36 (fr x_ (it (fr x_) k_ (it (nb x_) z_.toInt.toNat p_)) - 0 + 1) 0 (Nat.zero_le _) (Nat.lt_succ_self _) _ (lv_sub hl [1, 2, 3, 4, 5, 6, 0] rfl)
        exact L27 ((-z_.toInt).toNat - 0 + 1) 0 (Nat.zero_le _) (Nat.lt_succ_self _) _ (lv_sub hl [1, 2, 3, 4, 5, 0] rfl)
      · skip
        have hi12 : it (nb x_) k_ p_ < f_ 0 := itn_lt hwx hN_ hp
        refine lv_aload_n hx hb dX8_powered_12 rfl (lv_at hl 1 rfl) ?_
        refine lv_iload hx hb dX8_powered_13 (lv_at hl 4 rfl) ?_
        refine zi_iald (v := nI (it (nb x_) (k_ + 1) p_)) hx hb hK hP 2 rfl (by omega) (by omega) (by show nI (rc_ _) = _; rw [hr_ _ hi12, it_succ]) dX8_powered_15 ?_
        refine lv_istore (lv' := [(4, .int (nI (it (nb x_) (k_ + 1) p_))), (0, .ref (bd 0)), (1, .ref ra_), (2, .int z_), (3, .int (nI p_)), (5, .int (nI k_))]) hx hb dX8_powered_16 hl (by decide) rfl (fun ls hl => ?_)
        refine lv_iinc (v := nI (k_ + 1)) (lv' := [(5, .int (nI (k_ + 1))), (4, .int (nI (it (nb x_) (k_ + 1) p_))), (0, .ref (bd 0)), (1, .ref ra_), (2, .int z_), (3, .int (nI p_))]) hx hb dX8_powered_18 hl (k := 5) rfl (nI_1 _) (by decide) rfl (fun ls hl => ?_)
        refine lv_goto (tgt := 6) hx hb dX8_powered_21 (by decide) ?_
        exact ih6 (k_ + 1) (by omega) (by omega) _ (lv_sub hl [2, 3, 4, 5, 1, 0] rfl)
  exact L6 (z_.toInt.toNat - 0 + 1) 0 (Nat.zero_le _) (Nat.lt_succ_self _) _ (lv_sub hl [2, 3, 4, 5, 1, 0] rfl)

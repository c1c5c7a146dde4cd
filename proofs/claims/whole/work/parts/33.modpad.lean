abbrev w_X8_put : List Cond := Cond.code yX8_put cX8_put 8 (some .int) :: zAll
abbrev r_X8_put : Room := { frames := 1, cells := 0, slots := 0, locals := 22 }
theorem zd_X8_put : yX8_put.cls = RX8 ∧ yX8_put.cls ≠ "java/lang/invoke/MethodHandle" ∧ yX8_put.cls ≠ "java/lang/invoke/VarHandle" ∧ (parseMethodDescriptor yX8_put.desc).map (fun d => d.parameters.length) = some 1 := by decide +kernel
set_option maxHeartbeats 4000000 in
set_option maxRecDepth 100000 in
theorem c_X8_put (l : Launch) (D : va_G) (cy : Nat → ClassId) (sz : Nat) (bd : Nat → Nat) (um_ : Nat) (ln_ : Nat) (at_ : Nat) (iw_ : Bool) (pd_ : Nat → Nat) (x_ : Int64) (hp : ln_ ≤ 80) : zWi l yX8_put w_X8_put r_X8_put D cy [((bd 0), .inr (5, [.int (nI 0), .ref (bd 1), .ref (bd 2), .int (nI um_), .ref (bd 3), .ref (bd 4), .ref (bd 5), .int (nI ln_), .int (nI at_), .int (if iw_ = true then 1 else 0), .ref (bd 6), .ref (bd 7), .ref (bd 8), .ref (bd 9), .ref (bd 10), .ref (bd 11), .ref (bd 12), .ref (bd 13), .ref (bd 14)])), ((bd 5), .inl (cy 0, 80, .inl (nIf pd_)))] sz [.ref (bd 0), .long x_] (fun (r_ : Int32) (u : Unit) => r_ = ((opPut (pd_, ln_) x_).1) ∧ True) (fun u : Unit => ([((bd 0), .inr (5, [.int (nI 0), .ref (bd 1), .ref (bd 2), .int (nI um_), .ref (bd 3), .ref (bd 4), .ref (bd 5), .int (nI ((opPut (pd_, ln_) x_).2.2)), .int (nI at_), .int (if iw_ = true then 1 else 0), .ref (bd 6), .ref (bd 7), .ref (bd 8), .ref (bd 9), .ref (bd 10), .ref (bd 11), .ref (bd 12), .ref (bd 13), .ref (bd 14)])), ((bd 5), .inl (cy 0, 80, .inl (nIf ((opPut (pd_, ln_) x_).2.1))))] : va_W)) := by
  refine zOfW (cc := cX8_put) (maxL := 8) (ty := .int) (by decide) rfl (Nat.le_of_ble_eq_true rfl) ?_
  intro zp ze zs zm za zb zme zc hx hb hml hts hown hP hK zA hD hA Q kr ls hl
  have hS : va_S zA zs.heap zs.heap [] := va_S.rf
  have hown : zs.vm.findClass RX8 = some zm.cls := hown
  have hl : lv_has ls 8 [(0, .ref (bd 0)), (1, .long x_)] := hl
  refine lv_aload_n hx hb dX8_put_0 rfl (lv_at hl 0 rfl) ?_
  refine lv_iconst (v := nI 0) hx hb dX8_put_1 (by decide) ?_
  refine va_put (D := D) (ci := 5) (v := .int (nI 0)) (ty := .int) (C := RX8) (T := TX8) (N := 19) hx hb hts (fun w h => List.mem_cons_of_mem _ (zinX8 w h)) tyX8 tyX8_ok nmX8 hown hK.1 hP hD hS 0 rfl rfl 0 (by decide) (hts _ (List.mem_cons_of_mem _ zw_88)) (fun _ h9 => h9) rfl (tyX8_ok 0 (by decide)) rfl rfl (Nat.le_of_ble_eq_true rfl) dX8_put_2 (fun H locs hP hD hS => ?_)
  have hP : va_P D vwCl [((bd 0), .inr (5, [.int (nI 0), .ref (bd 1), .ref (bd 2), .int (nI um_), .ref (bd 3), .ref (bd 4), .ref (bd 5), .int (nI ln_), .int (nI at_), .int (if iw_ = true then 1 else 0), .ref (bd 6), .ref (bd 7), .ref (bd 8), .ref (bd 9), .ref (bd 10), .ref (bd 11), .ref (bd 12), .ref (bd 13), .ref (bd 14)])), ((bd 5), .inl (cy 0, 80, .inl (nIf pd_)))] H := hP
  have hD : va_D zA [((bd 0), .inr (5, [.int (nI 0), .ref (bd 1), .ref (bd 2), .int (nI um_), .ref (bd 3), .ref (bd 4), .ref (bd 5), .int (nI ln_), .int (nI at_), .int (if iw_ = true then 1 else 0), .ref (bd 6), .ref (bd 7), .ref (bd 8), .ref (bd 9), .ref (bd 10), .ref (bd 11), .ref (bd 12), .ref (bd 13), .ref (bd 14)])), ((bd 5), .inl (cy 0, 80, .inl (nIf pd_)))] := hD
  refine lv_iconst (v := nI 0) hx hb dX8_put_5 (by decide) ?_
  refine lv_istore_n (lv' := [(3, .int (nI 0)), (0, .ref (bd 0)), (1, .long x_)]) hx hb dX8_put_6 rfl hl (by decide) rfl (fun ls hl => ?_)
  refine lv_lload_n hx hb dX8_put_7 rfl (lv_at hl 2 rfl) ?_
  refine zl_top (v := lN (x_.toBitVec.toNat / 256 ^ 0)) (pd_0 x_) ?_
  refine lv_lstore (lv' := [(4, .long (lN (x_.toBitVec.toNat / 256 ^ 0))), (3, .int (nI 0)), (0, .ref (bd 0)), (1, .long x_)]) hx hb dX8_put_8 hl (by decide) rfl (fun ls hl => ?_)
  refine lv_iconst (v := nI 1) hx hb dX8_put_10 (by decide) ?_
  refine zi_top (v := if chkA (goodC x_) 0 = true then 1 else 0) rfl ?_
  refine lv_istore (lv' := [(6, .int (if chkA (goodC x_) 0 = true then 1 else 0)), (4, .long (lN (x_.toBitVec.toNat / 256 ^ 0))), (3, .int (nI 0)), (0, .ref (bd 0)), (1, .long x_)]) hx hb dX8_put_11 hl (by decide) rfl (fun ls hl => ?_)
  have L13 : ∀ (kf_ : Nat) (i_ : Nat) (hi : i_ ≤ 8) (hl_ : ∀ j_, j_ < i_ → bt8 x_ j_ ≠ 0), 8 - i_ < kf_ → ∀ (H : Heap) (locs : List Loc), va_P D vwCl [((bd 0), .inr (5, [.int (nI 0), .ref (bd 1), .ref (bd 2), .int (nI um_), .ref (bd 3), .ref (bd 4), .ref (bd 5), .int (nI ln_), .int (nI at_), .int (if iw_ = true then 1 else 0), .ref (bd 6), .ref (bd 7), .ref (bd 8), .ref (bd 9), .ref (bd 10), .ref (bd 11), .ref (bd 12), .ref (bd 13), .ref (bd 14)])), ((bd 5), .inl (cy 0, 80, .inl (nIf pd_)))] H → va_D zA [((bd 0), .inr (5, [.int (nI 0), .ref (bd 1), .ref (bd 2), .int (nI um_), .ref (bd 3), .ref (bd 4), .ref (bd 5), .int (nI ln_), .int (nI at_), .int (if iw_ = true then 1 else 0), .ref (bd 6), .ref (bd 7), .ref (bd 8), .ref (bd 9), .ref (bd 10), .ref (bd 11), .ref (bd 12), .ref (bd 13), .ref (bd 14)])), ((bd 5), .inl (cy 0, 80, .inl (nIf pd_)))] → va_S zA zs.heap H locs → ∀ ls : Array Slot, lv_has ls 8 [(0, .ref (bd 0)), (1, .long x_), (3, .int (nI i_)), (4, .long (lN (x_.toBitVec.toNat / 256 ^ i_))), (6, .int (if chkA (goodC x_) i_ = true then 1 else 0))] → W zp l ze r_X8_put zs zm za zb zme zc H locs 0 0 Q (F0 zm 13 ls []) := by
    intro kf_
    induction kf_ with
    | zero => intro i_ hi hl_ hk_; exact absurd hk_ (Nat.not_lt_zero _)
    | succ kf_ ih13 =>
      intro i_ hi hl_ hk_ H locs hP hD hS ls hl
      refine lv_iload_n hx hb dX8_put_13 rfl (lv_at hl 2 rfl) ?_
      refine lv_bipush (v := nI 8) hx hb dX8_put_14 (by decide) ?_
      refine zb_ge (a := i_) (b := 8) (tgt := 72) hx hb dX8_put_16 (by decide) (by omega) (by omega) (fun c16 => ?_) (fun c16 => ?_)
      · skip
        have h72 : i_ = 8 ∨ bt8 x_ i_ = 0 := Or.inl (by omega)
        have hz72 := fstZ_is hi hl_ h72
        refine lv_iload_n hx hb dX8_put_72 rfl (lv_at hl 2 rfl) ?_
        refine zb0_eq (a := i_) (tgt := 88) hx hb dX8_put_73 (by decide) (by omega) (fun c73 => ?_) (fun c73 => ?_)
        · skip
          have h88 : chN x_ = 0 := pd_bad hz72 (Or.inl c73)
          have e_ : opPut (pd_, ln_) x_ = (-2, (pd_, ln_)) := by unfold opPut; rw [if_pos h88]
          rw [e_] at kr
          refine lv_bipush (v := (-2)) hx hb dX8_put_88 (by decide) ?_
          exact kr _ () _ _ _ _ dX8_put_90 (vp_nar_int _) ⟨rfl, trivial⟩ hP hD hS
        · skip
          refine lv_iload hx hb dX8_put_76 (lv_at hl 4 rfl) ?_
          refine zq_eq (tgt := 88) hx hb dX8_put_78 (by decide) (fun c78 => ?_) (fun c78 => ?_)
          · skip
            have h88 : chN x_ = 0 := pd_bad hz72 (Or.inr (Or.inl c78))
            have e_ : opPut (pd_, ln_) x_ = (-2, (pd_, ln_)) := by unfold opPut; rw [if_pos h88]
            rw [e_] at kr
            refine lv_bipush (v := (-2)) hx hb dX8_put_88 (by decide) ?_
            exact kr _ () _ _ _ _ dX8_put_90 (vp_nar_int _) ⟨rfl, trivial⟩ hP hD hS
          · skip
            refine lv_lload hx hb dX8_put_81 (lv_at hl 3 rfl) ?_
            refine lv_lconst (v := lN 0) hx hb dX8_put_83 rfl ?_
            refine W.lcmp hx hb dX8_put_84 ?_
            refine zc_eq (tgt := 91) hx hb dX8_put_85 (by decide) (fun c85 => ?_) (fun c85 => ?_)
            · skip
              have hg91 : chN x_ = i_ := pd_good hz72 c78 ((pd_eq x_ (pd_lt x_ i_)).mp c85)
              refine lv_aload_n hx hb dX8_put_91 rfl (lv_at hl 0 rfl) ?_
              refine va_get (D := D) (ci := 5) (v := .int (nI ln_)) (C := RX8) (T := TX8) (N := 19) hx hb hts (fun w h => List.mem_cons_of_mem _ (zinX8 w h)) hown hK.1 hP 0 rfl rfl 7 (by decide) (hts _ (List.mem_cons_of_mem _ zw_195)) (fun _ h9 => h9) rfl dX8_put_92 ?_
              refine lv_iload_n hx hb dX8_put_95 rfl (lv_at hl 2 rfl) ?_
              refine zi_add (v := nI (ln_ + i_)) hx hb dX8_put_96 (nI_add _ _) ?_
              refine lv_bipush (v := nI 80) hx hb dX8_put_97 (by decide) ?_
              refine zb_le (a := ln_ + i_) (b := 80) (tgt := 105) hx hb dX8_put_99 (by decide) (by omega) (by omega) (fun c99 => ?_) (fun c99 => ?_)
              · skip
                refine lv_iconst (v := nI 0) hx hb dX8_put_105 (by decide) ?_
                have hP := zP_rowN hP 1 (putP pd_ ln_ i_ x_ 0) rfl (fun j_ _ => congrFun (putP_0 pd_ ln_ i_ x_) j_)
                have hP : va_P D vwCl [((bd 0), .inr (5, [.int (nI 0), .ref (bd 1), .ref (bd 2), .int (nI um_), .ref (bd 3), .ref (bd 4), .ref (bd 5), .int (nI ln_), .int (nI at_), .int (if iw_ = true then 1 else 0), .ref (bd 6), .ref (bd 7), .ref (bd 8), .ref (bd 9), .ref (bd 10), .ref (bd 11), .ref (bd 12), .ref (bd 13), .ref (bd 14)])), ((bd 5), .inl (cy 0, 80, .inl (nIf (putP pd_ ln_ i_ x_ 0))))] H := hP
                have hD : va_D zA [((bd 0), .inr (5, [.int (nI 0), .ref (bd 1), .ref (bd 2), .int (nI um_), .ref (bd 3), .ref (bd 4), .ref (bd 5), .int (nI ln_), .int (nI at_), .int (if iw_ = true then 1 else 0), .ref (bd 6), .ref (bd 7), .ref (bd 8), .ref (bd 9), .ref (bd 10), .ref (bd 11), .ref (bd 12), .ref (bd 13), .ref (bd 14)])), ((bd 5), .inl (cy 0, 80, .inl (nIf (putP pd_ ln_ i_ x_ 0))))] := hD.set (p := 1) rfl
                refine lv_istore (lv' := [(7, .int (nI 0)), (0, .ref (bd 0)), (1, .long x_), (3, .int (nI i_)), (4, .long (lN (x_.toBitVec.toNat / 256 ^ i_))), (6, .int (if chkA (goodC x_) i_ = true then 1 else 0))]) hx hb dX8_put_106 hl (by decide) rfl (fun ls hl => ?_)
                have L108 : ∀ (kf_ : Nat) (t_ : Nat) (ht : t_ ≤ i_), i_ - t_ < kf_ → ∀ (H : Heap) (locs : List Loc), va_P D vwCl [((bd 0), .inr (5, [.int (nI 0), .ref (bd 1), .ref (bd 2), .int (nI um_), .ref (bd 3), .ref (bd 4), .ref (bd 5), .int (nI ln_), .int (nI at_), .int (if iw_ = true then 1 else 0), .ref (bd 6), .ref (bd 7), .ref (bd 8), .ref (bd 9), .ref (bd 10), .ref (bd 11), .ref (bd 12), .ref (bd 13), .ref (bd 14)])), ((bd 5), .inl (cy 0, 80, .inl (nIf (putP pd_ ln_ i_ x_ t_))))] H → va_D zA [((bd 0), .inr (5, [.int (nI 0), .ref (bd 1), .ref (bd 2), .int (nI um_), .ref (bd 3), .ref (bd 4), .ref (bd 5), .int (nI ln_), .int (nI at_), .int (if iw_ = true then 1 else 0), .ref (bd 6), .ref (bd 7), .ref (bd 8), .ref (bd 9), .ref (bd 10), .ref (bd 11), .ref (bd 12), .ref (bd 13), .ref (bd 14)])), ((bd 5), .inl (cy 0, 80, .inl (nIf (putP pd_ ln_ i_ x_ t_))))] → va_S zA zs.heap H locs → ∀ ls : Array Slot, lv_has ls 8 [(0, .ref (bd 0)), (1, .long x_), (3, .int (nI i_)), (4, .long (lN (x_.toBitVec.toNat / 256 ^ i_))), (6, .int (if chkA (goodC x_) i_ = true then 1 else 0)), (7, .int (nI t_))] → W zp l ze r_X8_put zs zm za zb zme zc H locs 0 0 Q (F0 zm 108 ls []) := by
                  intro kf_
                  induction kf_ with
                  | zero => intro t_ ht hk_; exact absurd hk_ (Nat.not_lt_zero _)
                  | succ kf_ ih108 =>
                    intro t_ ht hk_ H locs hP hD hS ls hl
                    refine lv_iload hx hb dX8_put_108 (lv_at hl 5 rfl) ?_
                    refine lv_iload_n hx hb dX8_put_110 rfl (lv_at hl 2 rfl) ?_
                    refine zb_ge (a := t_) (b := i_) (tgt := 148) hx hb dX8_put_111 (by decide) (by omega) (by omega) (fun c111 => ?_) (fun c111 => ?_)
                    · skip
                      have hP := zP_rowN hP 1 (putP pd_ ln_ i_ x_ i_) rfl (fun j_ _ => by rw [show t_ = i_ by omega])
                      have hP : va_P D vwCl [((bd 0), .inr (5, [.int (nI 0), .ref (bd 1), .ref (bd 2), .int (nI um_), .ref (bd 3), .ref (bd 4), .ref (bd 5), .int (nI ln_), .int (nI at_), .int (if iw_ = true then 1 else 0), .ref (bd 6), .ref (bd 7), .ref (bd 8), .ref (bd 9), .ref (bd 10), .ref (bd 11), .ref (bd 12), .ref (bd 13), .ref (bd 14)])), ((bd 5), .inl (cy 0, 80, .inl (nIf (putP pd_ ln_ i_ x_ i_))))] H := hP
                      have hD : va_D zA [((bd 0), .inr (5, [.int (nI 0), .ref (bd 1), .ref (bd 2), .int (nI um_), .ref (bd 3), .ref (bd 4), .ref (bd 5), .int (nI ln_), .int (nI at_), .int (if iw_ = true then 1 else 0), .ref (bd 6), .ref (bd 7), .ref (bd 8), .ref (bd 9), .ref (bd 10), .ref (bd 11), .ref (bd 12), .ref (bd 13), .ref (bd 14)])), ((bd 5), .inl (cy 0, 80, .inl (nIf (putP pd_ ln_ i_ x_ i_))))] := hD.set (p := 1) rfl
                      refine lv_aload_n hx hb dX8_put_148 rfl (lv_at hl 0 rfl) ?_
                      refine lv_dup hx hb dX8_put_149 rfl ?_
                      refine va_get (D := D) (ci := 5) (v := .int (nI ln_)) (C := RX8) (T := TX8) (N := 19) hx hb hts (fun w h => List.mem_cons_of_mem _ (zinX8 w h)) hown hK.1 hP 0 rfl rfl 7 (by decide) (hts _ (List.mem_cons_of_mem _ zw_195)) (fun _ h9 => h9) rfl dX8_put_150 ?_
                      refine lv_iload_n hx hb dX8_put_153 rfl (lv_at hl 2 rfl) ?_
                      refine zi_add (v := nI (ln_ + i_)) hx hb dX8_put_154 (nI_add _ _) ?_
                      refine va_put (D := D) (ci := 5) (v := .int (nI (ln_ + i_))) (ty := .int) (C := RX8) (T := TX8) (N := 19) hx hb hts (fun w h => List.mem_cons_of_mem _ (zinX8 w h)) tyX8 tyX8_ok nmX8 hown hK.1 hP hD hS 0 rfl rfl 7 (by decide) (hts _ (List.mem_cons_of_mem _ zw_195)) (fun _ h9 => h9) rfl (tyX8_ok 7 (by decide)) rfl rfl (Nat.le_of_ble_eq_true rfl) dX8_put_155 (fun H locs hP hD hS => ?_)
                      have hP : va_P D vwCl [((bd 0), .inr (5, [.int (nI 0), .ref (bd 1), .ref (bd 2), .int (nI um_), .ref (bd 3), .ref (bd 4), .ref (bd 5), .int (nI (ln_ + i_)), .int (nI at_), .int (if iw_ = true then 1 else 0), .ref (bd 6), .ref (bd 7), .ref (bd 8), .ref (bd 9), .ref (bd 10), .ref (bd 11), .ref (bd 12), .ref (bd 13), .ref (bd 14)])), ((bd 5), .inl (cy 0, 80, .inl (nIf (putP pd_ ln_ i_ x_ i_))))] H := hP
                      have hD : va_D zA [((bd 0), .inr (5, [.int (nI 0), .ref (bd 1), .ref (bd 2), .int (nI um_), .ref (bd 3), .ref (bd 4), .ref (bd 5), .int (nI (ln_ + i_)), .int (nI at_), .int (if iw_ = true then 1 else 0), .ref (bd 6), .ref (bd 7), .ref (bd 8), .ref (bd 9), .ref (bd 10), .ref (bd 11), .ref (bd 12), .ref (bd 13), .ref (bd 14)])), ((bd 5), .inl (cy 0, 80, .inl (nIf (putP pd_ ln_ i_ x_ i_))))] := hD
                      have e_ : opPut (pd_, ln_) x_ = (nI (ln_ + i_), (putP pd_ ln_ i_ x_ i_, ln_ + i_)) := by unfold opPut; rw [hg91, if_neg c73, if_neg (by omega)]
                      rw [e_] at kr
                      refine lv_aload_n hx hb dX8_put_158 rfl (lv_at hl 0 rfl) ?_
                      refine va_get (D := D) (ci := 5) (v := .int (nI (ln_ + i_))) (C := RX8) (T := TX8) (N := 19) hx hb hts (fun w h => List.mem_cons_of_mem _ (zinX8 w h)) hown hK.1 hP 0 rfl rfl 7 (by decide) (hts _ (List.mem_cons_of_mem _ zw_195)) (fun _ h9 => h9) rfl dX8_put_159 ?_
                      exact kr _ () _ _ _ _ dX8_put_162 (vp_nar_int _) ⟨rfl, trivial⟩ hP hD hS
                    · skip
                      refine lv_aload_n hx hb dX8_put_114 rfl (lv_at hl 0 rfl) ?_
                      refine va_get (D := D) (ci := 5) (v := .ref (bd 5)) (C := RX8) (T := TX8) (N := 19) hx hb hts (fun w h => List.mem_cons_of_mem _ (zinX8 w h)) hown hK.1 hP 0 rfl rfl 6 (by decide) (hts _ (List.mem_cons_of_mem _ zw_78)) (fun _ h9 => h9) rfl dX8_put_115 ?_
                      refine lv_aload_n hx hb dX8_put_118 rfl (lv_at hl 0 rfl) ?_
                      refine va_get (D := D) (ci := 5) (v := .int (nI ln_)) (C := RX8) (T := TX8) (N := 19) hx hb hts (fun w h => List.mem_cons_of_mem _ (zinX8 w h)) hown hK.1 hP 0 rfl rfl 7 (by decide) (hts _ (List.mem_cons_of_mem _ zw_195)) (fun _ h9 => h9) rfl dX8_put_119 ?_
                      refine lv_iload hx hb dX8_put_122 (lv_at hl 5 rfl) ?_
                      refine zi_add (v := nI (ln_ + t_)) hx hb dX8_put_124 (nI_add _ _) ?_
                      refine lv_lload_n hx hb dX8_put_125 rfl (lv_at hl 1 rfl) ?_
                      refine lv_bipush (v := nI 8) hx hb dX8_put_126 (by decide) ?_
                      refine lv_iload_n hx hb dX8_put_128 rfl (lv_at hl 2 rfl) ?_
                      refine lv_iconst (v := nI 1) hx hb dX8_put_129 (by decide) ?_
                      refine zi_sub (v := nI (i_ - 1)) hx hb dX8_put_130 (pk_sub (by omega)) ?_
                      refine lv_iload hx hb dX8_put_131 (lv_at hl 5 rfl) ?_
                      refine zi_sub (v := nI ((i_ - 1) - t_)) hx hb dX8_put_133 (pk_sub (by omega)) ?_
                      refine zi_mul (v := nI (8 * ((i_ - 1) - t_))) hx hb dX8_put_134 (pk_mul _ _) ?_
                      refine lv_lushr (v := (x_.toUInt64 >>> ((nI (8 * ((i_ - 1) - t_))).toInt64.toUInt64 &&& Int64.toUInt64 63)).toInt64) hx hb dX8_put_135 rfl ?_
                      refine lv_ldc2 hx hb hown (hts _ (List.mem_cons_of_mem _ zw_719)) dX8_put_136 ?_
                      refine zl_and (v := lN (bt8 x_ (i_ - t_ - 1))) hx hb dX8_put_139 (by rw [show i_ - 1 - t_ = i_ - t_ - 1 by omega]; exact pd_at x_ (by omega)) ?_
                      refine lv_l2i (v := nI (bt8 x_ (i_ - t_ - 1))) hx hb dX8_put_140 (lN_i _) ?_
                      refine zi_iast hx hb hK hP hD hS 1 rfl (by omega) (by omega) dX8_put_141 (fun H locs hP hD hS => ?_)
                      rw [upd_nIf] at hP hD
                      have hP : va_P D vwCl [((bd 0), .inr (5, [.int (nI 0), .ref (bd 1), .ref (bd 2), .int (nI um_), .ref (bd 3), .ref (bd 4), .ref (bd 5), .int (nI ln_), .int (nI at_), .int (if iw_ = true then 1 else 0), .ref (bd 6), .ref (bd 7), .ref (bd 8), .ref (bd 9), .ref (bd 10), .ref (bd 11), .ref (bd 12), .ref (bd 13), .ref (bd 14)])), ((bd 5), .inl (cy 0, 80, .inl (nIf (uN1 (putP pd_ ln_ i_ x_ t_) (ln_ + t_) (bt8 x_ (i_ - t_ - 1))))))] H := hP
                      have hD : va_D zA [((bd 0), .inr (5, [.int (nI 0), .ref (bd 1), .ref (bd 2), .int (nI um_), .ref (bd 3), .ref (bd 4), .ref (bd 5), .int (nI ln_), .int (nI at_), .int (if iw_ = true then 1 else 0), .ref (bd 6), .ref (bd 7), .ref (bd 8), .ref (bd 9), .ref (bd 10), .ref (bd 11), .ref (bd 12), .ref (bd 13), .ref (bd 14)])), ((bd 5), .inl (cy 0, 80, .inl (nIf (uN1 (putP pd_ ln_ i_ x_ t_) (ln_ + t_) (bt8 x_ (i_ - t_ - 1))))))] := hD
                      have hP := zP_rowN hP 1 (putP pd_ ln_ i_ x_ (t_ + 1)) rfl (fun j_ _ => congrFun (putP_s pd_ ln_ i_ x_ t_) j_)
                      have hP : va_P D vwCl [((bd 0), .inr (5, [.int (nI 0), .ref (bd 1), .ref (bd 2), .int (nI um_), .ref (bd 3), .ref (bd 4), .ref (bd 5), .int (nI ln_), .int (nI at_), .int (if iw_ = true then 1 else 0), .ref (bd 6), .ref (bd 7), .ref (bd 8), .ref (bd 9), .ref (bd 10), .ref (bd 11), .ref (bd 12), .ref (bd 13), .ref (bd 14)])), ((bd 5), .inl (cy 0, 80, .inl (nIf (putP pd_ ln_ i_ x_ (t_ + 1)))))] H := hP
                      have hD : va_D zA [((bd 0), .inr (5, [.int (nI 0), .ref (bd 1), .ref (bd 2), .int (nI um_), .ref (bd 3), .ref (bd 4), .ref (bd 5), .int (nI ln_), .int (nI at_), .int (if iw_ = true then 1 else 0), .ref (bd 6), .ref (bd 7), .ref (bd 8), .ref (bd 9), .ref (bd 10), .ref (bd 11), .ref (bd 12), .ref (bd 13), .ref (bd 14)])), ((bd 5), .inl (cy 0, 80, .inl (nIf (putP pd_ ln_ i_ x_ (t_ + 1)))))] := hD.set (p := 1) rfl
                      refine lv_iinc (v := nI (t_ + 1)) (lv' := [(7, .int (nI (t_ + 1))), (0, .ref (bd 0)), (1, .long x_), (3, .int (nI i_)), (4, .long (lN (x_.toBitVec.toNat / 256 ^ i_))), (6, .int (if chkA (goodC x_) i_ = true then 1 else 0))]) hx hb dX8_put_142 hl (k := 5) rfl (nI_1 _) (by decide) rfl (fun ls hl => ?_)
                      refine lv_goto (tgt := 108) hx hb dX8_put_145 (by decide) ?_
                      exact ih108 (t_ + 1) (by omega) (by omega) _ _ hP hD hS _ (lv_sub hl [1, 2, 3, 4, 5, 0] rfl)
                exact L108 (i_ - 0 + 1) 0 (Nat.zero_le _) (Nat.lt_succ_self _) _ _ hP hD hS _ (lv_sub hl [1, 2, 3, 4, 5, 0] rfl)
              · skip
                have e_ : opPut (pd_, ln_) x_ = (-4, (pd_, ln_)) := by unfold opPut; rw [hg91, if_neg c73, if_pos (by omega)]
                rw [e_] at kr
                refine lv_bipush (v := (-4)) hx hb dX8_put_102 (by decide) ?_
                exact kr _ () _ _ _ _ dX8_put_104 (vp_nar_int _) ⟨rfl, trivial⟩ hP hD hS
            · skip
              have h88 : chN x_ = 0 := pd_bad hz72 (Or.inr (Or.inr (fun q_ => c85 (by rw [q_]))))
              have e_ : opPut (pd_, ln_) x_ = (-2, (pd_, ln_)) := by unfold opPut; rw [if_pos h88]
              rw [e_] at kr
              refine lv_bipush (v := (-2)) hx hb dX8_put_88 (by decide) ?_
              exact kr _ () _ _ _ _ dX8_put_90 (vp_nar_int _) ⟨rfl, trivial⟩ hP hD hS
      · skip
        refine lv_lload hx hb dX8_put_19 (lv_at hl 3 rfl) ?_
        refine lv_ldc2 hx hb hown (hts _ (List.mem_cons_of_mem _ zw_719)) dX8_put_21 ?_
        refine zl_and (v := lN (bt8 x_ i_)) hx hb dX8_put_24 (pd_and x_ i_) ?_
        refine lv_lconst (v := lN 0) hx hb dX8_put_25 rfl ?_
        refine W.lcmp hx hb dX8_put_26 ?_
        refine zc_eq (tgt := 72) hx hb dX8_put_27 (by decide) (fun c27 => ?_) (fun c27 => ?_)
        · skip
          have h72 : i_ = 8 ∨ bt8 x_ i_ = 0 := Or.inr ((pd_eq x_ (Nat.lt_trans (bt8_lt x_ i_) (by decide))).mp c27)
          have hz72 := fstZ_is hi hl_ h72
          refine lv_iload_n hx hb dX8_put_72 rfl (lv_at hl 2 rfl) ?_
          refine zb0_eq (a := i_) (tgt := 88) hx hb dX8_put_73 (by decide) (by omega) (fun c73 => ?_) (fun c73 => ?_)
          · skip
            have h88 : chN x_ = 0 := pd_bad hz72 (Or.inl c73)
            have e_ : opPut (pd_, ln_) x_ = (-2, (pd_, ln_)) := by unfold opPut; rw [if_pos h88]
            rw [e_] at kr
            refine lv_bipush (v := (-2)) hx hb dX8_put_88 (by decide) ?_
            exact kr _ () _ _ _ _ dX8_put_90 (vp_nar_int _) ⟨rfl, trivial⟩ hP hD hS
          · skip
            refine lv_iload hx hb dX8_put_76 (lv_at hl 4 rfl) ?_
            refine zq_eq (tgt := 88) hx hb dX8_put_78 (by decide) (fun c78 => ?_) (fun c78 => ?_)
            · skip
              have h88 : chN x_ = 0 := pd_bad hz72 (Or.inr (Or.inl c78))
              have e_ : opPut (pd_, ln_) x_ = (-2, (pd_, ln_)) := by unfold opPut; rw [if_pos h88]
              rw [e_] at kr
              refine lv_bipush (v := (-2)) hx hb dX8_put_88 (by decide) ?_
              exact kr _ () _ _ _ _ dX8_put_90 (vp_nar_int _) ⟨rfl, trivial⟩ hP hD hS
            · skip
              refine lv_lload hx hb dX8_put_81 (lv_at hl 3 rfl) ?_
              refine lv_lconst (v := lN 0) hx hb dX8_put_83 rfl ?_
              refine W.lcmp hx hb dX8_put_84 ?_
              refine zc_eq (tgt := 91) hx hb dX8_put_85 (by decide) (fun c85 => ?_) (fun c85 => ?_)
              · skip
                have hg91 : chN x_ = i_ := pd_good hz72 c78 ((pd_eq x_ (pd_lt x_ i_)).mp c85)
                refine lv_aload_n hx hb dX8_put_91 rfl (lv_at hl 0 rfl) ?_
                refine va_get (D := D) (ci := 5) (v := .int (nI ln_)) (C := RX8) (T := TX8) (N := 19) hx hb hts (fun w h => List.mem_cons_of_mem _ (zinX8 w h)) hown hK.1 hP 0 rfl rfl 7 (by decide) (hts _ (List.mem_cons_of_mem _ zw_195)) (fun _ h9 => h9) rfl dX8_put_92 ?_
                refine lv_iload_n hx hb dX8_put_95 rfl (lv_at hl 2 rfl) ?_
                refine zi_add (v := nI (ln_ + i_)) hx hb dX8_put_96 (nI_add _ _) ?_
                refine lv_bipush (v := nI 80) hx hb dX8_put_97 (by decide) ?_
                refine zb_le (a := ln_ + i_) (b := 80) (tgt := 105) hx hb dX8_put_99 (by decide) (by omega) (by omega) (fun c99 => ?_) (fun c99 => ?_)
                · skip
                  refine lv_iconst (v := nI 0) hx hb dX8_put_105 (by decide) ?_
                  have hP := zP_rowN hP 1 (putP pd_ ln_ i_ x_ 0) rfl (fun j_ _ => congrFun (putP_0 pd_ ln_ i_ x_) j_)
                  have hP : va_P D vwCl [((bd 0), .inr (5, [.int (nI 0), .ref (bd 1), .ref (bd 2), .int (nI um_), .ref (bd 3), .ref (bd 4), .ref (bd 5), .int (nI ln_), .int (nI at_), .int (if iw_ = true then 1 else 0), .ref (bd 6), .ref (bd 7), .ref (bd 8), .ref (bd 9), .ref (bd 10), .ref (bd 11), .ref (bd 12), .ref (bd 13), .ref (bd 14)])), ((bd 5), .inl (cy 0, 80, .inl (nIf (putP pd_ ln_ i_ x_ 0))))] H := hP
                  have hD : va_D zA [((bd 0), .inr (5, [.int (nI 0), .ref (bd 1), .ref (bd 2), .int (nI um_), .ref (bd 3), .ref (bd 4), .ref (bd 5), .int (nI ln_), .int (nI at_), .int (if iw_ = true then 1 else 0), .ref (bd 6), .ref (bd 7), .ref (bd 8), .ref (bd 9), .ref (bd 10), .ref (bd 11), .ref (bd 12), .ref (bd 13), .ref (bd 14)])), ((bd 5), .inl (cy 0, 80, .inl (nIf (putP pd_ ln_ i_ x_ 0))))] := hD.set (p := 1) rfl
                  refine lv_istore (lv' := [(7, .int (nI 0)), (0, .ref (bd 0)), (1, .long x_), (3, .int (nI i_)), (4, .long (lN (x_.toBitVec.toNat / 256 ^ i_))), (6, .int (if chkA (goodC x_) i_ = true then 1 else 0))]) hx hb dX8_put_106 hl (by decide) rfl (fun ls hl => ?_)
                  have L108 : ∀ (kf_ : Nat) (t_ : Nat) (ht : t_ ≤ i_), i_ - t_ < kf_ → ∀ (H : Heap) (locs : List Loc), va_P D vwCl [((bd 0), .inr (5, [.int (nI 0), .ref (bd 1), .ref (bd 2), .int (nI um_), .ref (bd 3), .ref (bd 4), .ref (bd 5), .int (nI ln_), .int (nI at_), .int (if iw_ = true then 1 else 0), .ref (bd 6), .ref (bd 7), .ref (bd 8), .ref (bd 9), .ref (bd 10), .ref (bd 11), .ref (bd 12), .ref (bd 13), .ref (bd 14)])), ((bd 5), .inl (cy 0, 80, .inl (nIf (putP pd_ ln_ i_ x_ t_))))] H → va_D zA [((bd 0), .inr (5, [.int (nI 0), .ref (bd 1), .ref (bd 2), .int (nI um_), .ref (bd 3), .ref (bd 4), .ref (bd 5), .int (nI ln_), .int (nI at_), .int (if iw_ = true then 1 else 0), .ref (bd 6), .ref (bd 7), .ref (bd 8), .ref (bd 9), .ref (bd 10), .ref (bd 11), .ref (bd 12), .ref (bd 13), .ref (bd 14)])), ((bd 5), .inl (cy 0, 80, .inl (nIf (putP pd_ ln_ i_ x_ t_))))] → va_S zA zs.heap H locs → ∀ ls : Array Slot, lv_has ls 8 [(0, .ref (bd 0)), (1, .long x_), (3, .int (nI i_)), (4, .long (lN (x_.toBitVec.toNat / 256 ^ i_))), (6, .int (if chkA (goodC x_) i_ = true then 1 else 0)), (7, .int (nI t_))] → W zp l ze r_X8_put zs zm za zb zme zc H locs 0 0 Q (F0 zm 108 ls []) := by
                    intro kf_
                    induction kf_ with
                    | zero => intro t_ ht hk_; exact absurd hk_ (Nat.not_lt_zero _)
                    | succ kf_ ih108 =>
                      intro t_ ht hk_ H locs hP hD hS ls hl
                      refine lv_iload hx hb dX8_put_108 (lv_at hl 5 rfl) ?_
                      refine lv_iload_n hx hb dX8_put_110 rfl (lv_at hl 2 rfl) ?_
                      refine zb_ge (a := t_) (b := i_) (tgt := 148) hx hb dX8_put_111 (by decide) (by omega) (by omega) (fun c111 => ?_) (fun c111 => ?_)
                      · skip
                        have hP := zP_rowN hP 1 (putP pd_ ln_ i_ x_ i_) rfl (fun j_ _ => by rw [show t_ = i_ by omega])
                        have hP : va_P D vwCl [((bd 0), .inr (5, [.int (nI 0), .ref (bd 1), .ref (bd 2), .int (nI um_), .ref (bd 3), .ref (bd 4), .ref (bd 5), .int (nI ln_), .int (nI at_), .int (if iw_ = true then 1 else 0), .ref (bd 6), .ref (bd 7), .ref (bd 8), .ref (bd 9), .ref (bd 10), .ref (bd 11), .ref (bd 12), .ref (bd 13), .ref (bd 14)])), ((bd 5), .inl (cy 0, 80, .inl (nIf (putP pd_ ln_ i_ x_ i_))))] H := hP
                        have hD : va_D zA [((bd 0), .inr (5, [.int (nI 0), .ref (bd 1), .ref (bd 2), .int (nI um_), .ref (bd 3), .ref (bd 4), .ref (bd 5), .int (nI ln_), .int (nI at_), .int (if iw_ = true then 1 else 0), .ref (bd 6), .ref (bd 7), .ref (bd 8), .ref (bd 9), .ref (bd 10), .ref (bd 11), .ref (bd 12), .ref (bd 13), .ref (bd 14)])), ((bd 5), .inl (cy 0, 80, .inl (nIf (putP pd_ ln_ i_ x_ i_))))] := hD.set (p := 1) rfl
                        refine lv_aload_n hx hb dX8_put_148 rfl (lv_at hl 0 rfl) ?_
                        refine lv_dup hx hb dX8_put_149 rfl ?_
                        refine va_get (D := D) (ci := 5) (v := .int (nI ln_)) (C := RX8) (T := TX8) (N := 19) hx hb hts (fun w h => List.mem_cons_of_mem _ (zinX8 w h)) hown hK.1 hP 0 rfl rfl 7 (by decide) (hts _ (List.mem_cons_of_mem _ zw_195)) (fun _ h9 => h9) rfl dX8_put_150 ?_
                        refine lv_iload_n hx hb dX8_put_153 rfl (lv_at hl 2 rfl) ?_
                        refine zi_add (v := nI (ln_ + i_)) hx hb dX8_put_154 (nI_add _ _) ?_
                        refine va_put (D := D) (ci := 5) (v := .int (nI (ln_ + i_))) (ty := .int) (C := RX8) (T := TX8) (N := 19) hx hb hts (fun w h => List.mem_cons_of_mem _ (zinX8 w h)) tyX8 tyX8_ok nmX8 hown hK.1 hP hD hS 0 rfl rfl 7 (by decide) (hts _ (List.mem_cons_of_mem _ zw_195)) (fun _ h9 => h9) rfl (tyX8_ok 7 (by decide)) rfl rfl (Nat.le_of_ble_eq_true rfl) dX8_put_155 (fun H locs hP hD hS => ?_)
                        have hP : va_P D vwCl [((bd 0), .inr (5, [.int (nI 0), .ref (bd 1), .ref (bd 2), .int (nI um_), .ref (bd 3), .ref (bd 4), .ref (bd 5), .int (nI (ln_ + i_)), .int (nI at_), .int (if iw_ = true then 1 else 0), .ref (bd 6), .ref (bd 7), .ref (bd 8), .ref (bd 9), .ref (bd 10), .ref (bd 11), .ref (bd 12), .ref (bd 13), .ref (bd 14)])), ((bd 5), .inl (cy 0, 80, .inl (nIf (putP pd_ ln_ i_ x_ i_))))] H := hP
                        have hD : va_D zA [((bd 0), .inr (5, [.int (nI 0), .ref (bd 1), .ref (bd 2), .int (nI um_), .ref (bd 3), .ref (bd 4), .ref (bd 5), .int (nI (ln_ + i_)), .int (nI at_), .int (if iw_ = true then 1 else 0), .ref (bd 6), .ref (bd 7), .ref (bd 8), .ref (bd 9), .ref (bd 10), .ref (bd 11), .ref (bd 12), .ref (bd 13), .ref (bd 14)])), ((bd 5), .inl (cy 0, 80, .inl (nIf (putP pd_ ln_ i_ x_ i_))))] := hD
                        have e_ : opPut (pd_, ln_) x_ = (nI (ln_ + i_), (putP pd_ ln_ i_ x_ i_, ln_ + i_)) := by unfold opPut; rw [hg91, if_neg c73, if_neg (by omega)]
                        rw [e_] at kr
                        refine lv_aload_n hx hb dX8_put_158 rfl (lv_at hl 0 rfl) ?_
                        refine va_get (D := D) (ci := 5) (v := .int (nI (ln_ + i_))) (C := RX8) (T := TX8) (N := 19) hx hb hts (fun w h => List.mem_cons_of_mem _ (zinX8 w h)) hown hK.1 hP 0 rfl rfl 7 (by decide) (hts _ (List.mem_cons_of_mem _ zw_195)) (fun _ h9 => h9) rfl dX8_put_159 ?_
                        exact kr _ () _ _ _ _ dX8_put_162 (vp_nar_int _) ⟨rfl, trivial⟩ hP hD hS
                      · skip
                        refine lv_aload_n hx hb dX8_put_114 rfl (lv_at hl 0 rfl) ?_
                        refine va_get (D := D) (ci := 5) (v := .ref (bd 5)) (C := RX8) (T := TX8) (N := 19) hx hb hts (fun w h => List.mem_cons_of_mem _ (zinX8 w h)) hown hK.1 hP 0 rfl rfl 6 (by decide) (hts _ (List.mem_cons_of_mem _ zw_78)) (fun _ h9 => h9) rfl dX8_put_115 ?_
                        refine lv_aload_n hx hb dX8_put_118 rfl (lv_at hl 0 rfl) ?_
                        refine va_get (D := D) (ci := 5) (v := .int (nI ln_)) (C := RX8) (T := TX8) (N := 19) hx hb hts (fun w h => List.mem_cons_of_mem _ (zinX8 w h)) hown hK.1 hP 0 rfl rfl 7 (by decide) (hts _ (List.mem_cons_of_mem _ zw_195)) (fun _ h9 => h9) rfl dX8_put_119 ?_
                        refine lv_iload hx hb dX8_put_122 (lv_at hl 5 rfl) ?_
                        refine zi_add (v := nI (ln_ + t_)) hx hb dX8_put_124 (nI_add _ _) ?_
                        refine lv_lload_n hx hb dX8_put_125 rfl (lv_at hl 1 rfl) ?_
                        refine lv_bipush (v := nI 8) hx hb dX8_put_126 (by decide) ?_
                        refine lv_iload_n hx hb dX8_put_128 rfl (lv_at hl 2 rfl) ?_
                        refine lv_iconst (v := nI 1) hx hb dX8_put_129 (by decide) ?_
                        refine zi_sub (v := nI (i_ - 1)) hx hb dX8_put_130 (pk_sub (by omega)) ?_
                        refine lv_iload hx hb dX8_put_131 (lv_at hl 5 rfl) ?_
                        refine zi_sub (v := nI ((i_ - 1) - t_)) hx hb dX8_put_133 (pk_sub (by omega)) ?_
                        refine zi_mul (v := nI (8 * ((i_ - 1) - t_))) hx hb dX8_put_134 (pk_mul _ _) ?_
                        refine lv_lushr (v := (x_.toUInt64 >>> ((nI (8 * ((i_ - 1) - t_))).toInt64.toUInt64 &&& Int64.toUInt64 63)).toInt64) hx hb dX8_put_135 rfl ?_
                        refine lv_ldc2 hx hb hown (hts _ (List.mem_cons_of_mem _ zw_719)) dX8_put_136 ?_
                        refine zl_and (v := lN (bt8 x_ (i_ - t_ - 1))) hx hb dX8_put_139 (by rw [show i_ - 1 - t_ = i_ - t_ - 1 by omega]; exact pd_at x_ (by omega)) ?_
                        refine lv_l2i (v := nI (bt8 x_ (i_ - t_ - 1))) hx hb dX8_put_140 (lN_i _) ?_
                        refine zi_iast hx hb hK hP hD hS 1 rfl (by omega) (by omega) dX8_put_141 (fun H locs hP hD hS => ?_)
                        rw [upd_nIf] at hP hD
                        have hP : va_P D vwCl [((bd 0), .inr (5, [.int (nI 0), .ref (bd 1), .ref (bd 2), .int (nI um_), .ref (bd 3), .ref (bd 4), .ref (bd 5), .int (nI ln_), .int (nI at_), .int (if iw_ = true then 1 else 0), .ref (bd 6), .ref (bd 7), .ref (bd 8), .ref (bd 9), .ref (bd 10), .ref (bd 11), .ref (bd 12), .ref (bd 13), .ref (bd 14)])), ((bd 5), .inl (cy 0, 80, .inl (nIf (uN1 (putP pd_ ln_ i_ x_ t_) (ln_ + t_) (bt8 x_ (i_ - t_ - 1))))))] H := hP
                        have hD : va_D zA [((bd 0), .inr (5, [.int (nI 0), .ref (bd 1), .ref (bd 2), .int (nI um_), .ref (bd 3), .ref (bd 4), .ref (bd 5), .int (nI ln_), .int (nI at_), .int (if iw_ = true then 1 else 0), .ref (bd 6), .ref (bd 7), .ref (bd 8), .ref (bd 9), .ref (bd 10), .ref (bd 11), .ref (bd 12), .ref (bd 13), .ref (bd 14)])), ((bd 5), .inl (cy 0, 80, .inl (nIf (uN1 (putP pd_ ln_ i_ x_ t_) (ln_ + t_) (bt8 x_ (i_ - t_ - 1))))))] := hD
                        have hP := zP_rowN hP 1 (putP pd_ ln_ i_ x_ (t_ + 1)) rfl (fun j_ _ => congrFun (putP_s pd_ ln_ i_ x_ t_) j_)
                        have hP : va_P D vwCl [((bd 0), .inr (5, [.int (nI 0), .ref (bd 1), .ref (bd 2), .int (nI um_), .ref (bd 3), .ref (bd 4), .ref (bd 5), .int (nI ln_), .int (nI at_), .int (if iw_ = true then 1 else 0), .ref (bd 6), .ref (bd 7), .ref (bd 8), .ref (bd 9), .ref (bd 10), .ref (bd 11), .ref (bd 12), .ref (bd 13), .ref (bd 14)])), ((bd 5), .inl (cy 0, 80, .inl (nIf (putP pd_ ln_ i_ x_ (t_ + 1)))))] H := hP
                        have hD : va_D zA [((bd 0), .inr (5, [.int (nI 0), .ref (bd 1), .ref (bd 2), .int (nI um_), .ref (bd 3), .ref (bd 4), .ref (bd 5), .int (nI ln_), .int (nI at_), .int (if iw_ = true then 1 else 0), .ref (bd 6), .ref (bd 7), .ref (bd 8), .ref (bd 9), .ref (bd 10), .ref (bd 11), .ref (bd 12), .ref (bd 13), .ref (bd 14)])), ((bd 5), .inl (cy 0, 80, .inl (nIf (putP pd_ ln_ i_ x_ (t_ + 1)))))] := hD.set (p := 1) rfl
                        refine lv_iinc (v := nI (t_ + 1)) (lv' := [(7, .int (nI (t_ + 1))), (0, .ref (bd 0)), (1, .long x_), (3, .int (nI i_)), (4, .long (lN (x_.toBitVec.toNat / 256 ^ i_))), (6, .int (if chkA (goodC x_) i_ = true then 1 else 0))]) hx hb dX8_put_142 hl (k := 5) rfl (nI_1 _) (by decide) rfl (fun ls hl => ?_)
                        refine lv_goto (tgt := 108) hx hb dX8_put_145 (by decide) ?_
                        exact ih108 (t_ + 1) (by omega) (by omega) _ _ hP hD hS _ (lv_sub hl [1, 2, 3, 4, 5, 0] rfl)
                  exact L108 (i_ - 0 + 1) 0 (Nat.zero_le _) (Nat.lt_succ_self _) _ _ hP hD hS _ (lv_sub hl [1, 2, 3, 4, 5, 0] rfl)
                · skip
                  have e_ : opPut (pd_, ln_) x_ = (-4, (pd_, ln_)) := by unfold opPut; rw [hg91, if_neg c73, if_pos (by omega)]
                  rw [e_] at kr
                  refine lv_bipush (v := (-4)) hx hb dX8_put_102 (by decide) ?_
                  exact kr _ () _ _ _ _ dX8_put_104 (vp_nar_int _) ⟨rfl, trivial⟩ hP hD hS
              · skip
                have h88 : chN x_ = 0 := pd_bad hz72 (Or.inr (Or.inr (fun q_ => c85 (by rw [q_]))))
                have e_ : opPut (pd_, ln_) x_ = (-2, (pd_, ln_)) := by unfold opPut; rw [if_pos h88]
                rw [e_] at kr
                refine lv_bipush (v := (-2)) hx hb dX8_put_88 (by decide) ?_
                exact kr _ () _ _ _ _ dX8_put_90 (vp_nar_int _) ⟨rfl, trivial⟩ hP hD hS
        · skip
          have hb30 := bt8_lt x_ i_
          have hn30 : bt8 x_ i_ ≠ 0 := fun q_ => c27 (by rw [q_])
          have ht30 : (nI (bt8 x_ i_)).toInt = ((bt8 x_ i_ : Nat) : Int) := nI_toInt (by omega)
          have hk33 : (nI 33).toInt = 33 := rfl
          have hk126 : (nI 126).toInt = 126 := rfl
          refine lv_iload hx hb dX8_put_30 (lv_at hl 4 rfl) ?_
          refine zq_eq (tgt := 56) hx hb dX8_put_32 (by decide) (fun c32 => ?_) (fun c32 => ?_)
          · skip
            refine lv_iconst (v := nI 0) hx hb dX8_put_56 (by decide) ?_
            refine zi_top (v := if chkA (goodC x_) (i_ + 1) = true then 1 else 0) (chkA_0a c32) ?_
            refine lv_istore (lv' := [(6, .int (if chkA (goodC x_) (i_ + 1) = true then 1 else 0)), (0, .ref (bd 0)), (1, .long x_), (3, .int (nI i_)), (4, .long (lN (x_.toBitVec.toNat / 256 ^ i_)))]) hx hb dX8_put_57 hl (by decide) rfl (fun ls hl => ?_)
            refine lv_lload hx hb dX8_put_59 (lv_at hl 4 rfl) ?_
            refine lv_bipush (v := nI 8) hx hb dX8_put_61 (by decide) ?_
            refine lv_lushr (v := lN (x_.toBitVec.toNat / 256 ^ (i_ + 1))) hx hb dX8_put_63 (pd_shr x_ i_) ?_
            refine lv_lstore (lv' := [(4, .long (lN (x_.toBitVec.toNat / 256 ^ (i_ + 1)))), (6, .int (if chkA (goodC x_) (i_ + 1) = true then 1 else 0)), (0, .ref (bd 0)), (1, .long x_), (3, .int (nI i_))]) hx hb dX8_put_64 hl (by decide) rfl (fun ls hl => ?_)
            refine lv_iinc (v := nI (i_ + 1)) (lv' := [(3, .int (nI (i_ + 1))), (4, .long (lN (x_.toBitVec.toNat / 256 ^ (i_ + 1)))), (6, .int (if chkA (goodC x_) (i_ + 1) = true then 1 else 0)), (0, .ref (bd 0)), (1, .long x_)]) hx hb dX8_put_66 hl (k := 4) rfl (nI_1 _) (by decide) rfl (fun ls hl => ?_)
            refine lv_goto (tgt := 13) hx hb dX8_put_69 (by decide) ?_
            exact ih13 (i_ + 1) (by omega) (fun j_ hj_ => by rcases Nat.lt_or_ge j_ i_ with q_ | q_; exact hl_ j_ q_; rw [show j_ = i_ by omega]; exact hn30) (by omega) _ _ hP hD hS _ (lv_sub hl [3, 4, 0, 1, 2] rfl)
          · skip
            refine lv_lload hx hb dX8_put_35 (lv_at hl 3 rfl) ?_
            refine lv_ldc2 hx hb hown (hts _ (List.mem_cons_of_mem _ zw_719)) dX8_put_37 ?_
            refine zl_and (v := lN (bt8 x_ i_)) hx hb dX8_put_40 (pd_and x_ i_) ?_
            refine lv_l2i (v := nI (bt8 x_ i_)) hx hb dX8_put_41 (lN_i _) ?_
            refine lv_bipush (v := nI 33) hx hb dX8_put_42 (by decide) ?_
            refine lv_bipush (v := nI 126) hx hb dX8_put_44 (by decide) ?_
            refine zcSi (As := [.int (nI (bt8 x_ i_)), .int (nI 33), .int (nI 126)]) (rest := []) ⟨hx, hb, hml, hown, hts⟩ (c_X8_in l D cy (nI (bt8 x_ i_)) (nI 33) (nI 126)) (va_cwS 3 hts (zG_S zw_121 zw_122 zw_5 zw_123) rfl rfl rfl zd_X8_in ⟨Nat.le_of_ble_eq_true rfl, Nat.le_of_ble_eq_true rfl⟩) hK hP [] rfl rfl hl.1 rfl (Nat.le_of_ble_eq_true rfl) dX8_put_46 ⟨Nat.zero_le _, Nat.zero_le _⟩ (fun r46 h46 => ?_)
            subst h46
            refine zq_eq (tgt := 56) hx hb dX8_put_49 (by decide) (fun c49 => ?_) (fun c49 => ?_)
            · skip
              refine lv_iconst (v := nI 0) hx hb dX8_put_56 (by decide) ?_
              refine zi_top (v := if chkA (goodC x_) (i_ + 1) = true then 1 else 0) (chkA_0b (fun q_ => c49 (by have := goodC_iff.mp q_; omega))) ?_
              refine lv_istore (lv' := [(6, .int (if chkA (goodC x_) (i_ + 1) = true then 1 else 0)), (0, .ref (bd 0)), (1, .long x_), (3, .int (nI i_)), (4, .long (lN (x_.toBitVec.toNat / 256 ^ i_)))]) hx hb dX8_put_57 hl (by decide) rfl (fun ls hl => ?_)
              refine lv_lload hx hb dX8_put_59 (lv_at hl 4 rfl) ?_
              refine lv_bipush (v := nI 8) hx hb dX8_put_61 (by decide) ?_
              refine lv_lushr (v := lN (x_.toBitVec.toNat / 256 ^ (i_ + 1))) hx hb dX8_put_63 (pd_shr x_ i_) ?_
              refine lv_lstore (lv' := [(4, .long (lN (x_.toBitVec.toNat / 256 ^ (i_ + 1)))), (6, .int (if chkA (goodC x_) (i_ + 1) = true then 1 else 0)), (0, .ref (bd 0)), (1, .long x_), (3, .int (nI i_))]) hx hb dX8_put_64 hl (by decide) rfl (fun ls hl => ?_)
              refine lv_iinc (v := nI (i_ + 1)) (lv' := [(3, .int (nI (i_ + 1))), (4, .long (lN (x_.toBitVec.toNat / 256 ^ (i_ + 1)))), (6, .int (if chkA (goodC x_) (i_ + 1) = true then 1 else 0)), (0, .ref (bd 0)), (1, .long x_)]) hx hb dX8_put_66 hl (k := 4) rfl (nI_1 _) (by decide) rfl (fun ls hl => ?_)
              refine lv_goto (tgt := 13) hx hb dX8_put_69 (by decide) ?_
              exact ih13 (i_ + 1) (by omega) (fun j_ hj_ => by rcases Nat.lt_or_ge j_ i_ with q_ | q_; exact hl_ j_ q_; rw [show j_ = i_ by omega]; exact hn30) (by omega) _ _ hP hD hS _ (lv_sub hl [3, 4, 0, 1, 2] rfl)
            · skip
              refine lv_iconst (v := nI 1) hx hb dX8_put_52 (by decide) ?_
              refine lv_goto (tgt := 57) hx hb dX8_put_53 (by decide) ?_
              refine zi_top (v := if chkA (goodC x_) (i_ + 1) = true then 1 else 0) (chkA_1 c32 (goodC_iff.mpr (by omega))) ?_
              refine lv_istore (lv' := [(6, .int (if chkA (goodC x_) (i_ + 1) = true then 1 else 0)), (0, .ref (bd 0)), (1, .long x_), (3, .int (nI i_)), (4, .long (lN (x_.toBitVec.toNat / 256 ^ i_)))]) hx hb dX8_put_57 hl (by decide) rfl (fun ls hl => ?_)
              refine lv_lload hx hb dX8_put_59 (lv_at hl 4 rfl) ?_
              refine lv_bipush (v := nI 8) hx hb dX8_put_61 (by decide) ?_
              refine lv_lushr (v := lN (x_.toBitVec.toNat / 256 ^ (i_ + 1))) hx hb dX8_put_63 (pd_shr x_ i_) ?_
              refine lv_lstore (lv' := [(4, .long (lN (x_.toBitVec.toNat / 256 ^ (i_ + 1)))), (6, .int (if chkA (goodC x_) (i_ + 1) = true then 1 else 0)), (0, .ref (bd 0)), (1, .long x_), (3, .int (nI i_))]) hx hb dX8_put_64 hl (by decide) rfl (fun ls hl => ?_)
              refine lv_iinc (v := nI (i_ + 1)) (lv' := [(3, .int (nI (i_ + 1))), (4, .long (lN (x_.toBitVec.toNat / 256 ^ (i_ + 1)))), (6, .int (if chkA (goodC x_) (i_ + 1) = true then 1 else 0)), (0, .ref (bd 0)), (1, .long x_)]) hx hb dX8_put_66 hl (k := 4) rfl (nI_1 _) (by decide) rfl (fun ls hl => ?_)
              refine lv_goto (tgt := 13) hx hb dX8_put_69 (by decide) ?_
              exact ih13 (i_ + 1) (by omega) (fun j_ hj_ => by rcases Nat.lt_or_ge j_ i_ with q_ | q_; exact hl_ j_ q_; rw [show j_ = i_ by omega]; exact hn30) (by omega) _ _ hP hD hS _ (lv_sub hl [3, 4, 0, 1, 2] rfl)
  exact L13 (8 - 0 + 1) 0 (Nat.zero_le _) (fun j_ hj_ => absurd hj_ (Nat.not_lt_zero _)) (Nat.lt_succ_self _) _ _ hP hD hS _ (lv_sub hl [3, 4, 2, 1, 0] rfl)
abbrev w_X8_wipe : List Cond := Cond.code yX8_wipe cX8_wipe 2 (some .int) :: zAll
abbrev r_X8_wipe : Room := { frames := 0, cells := 0, slots := 0, locals := 0 }
theorem zd_X8_wipe : yX8_wipe.cls = RX8 ∧ yX8_wipe.cls ≠ "java/lang/invoke/MethodHandle" ∧ yX8_wipe.cls ≠ "java/lang/invoke/VarHandle" ∧ (parseMethodDescriptor yX8_wipe.desc).map (fun d => d.parameters.length) = some 0 := by decide +kernel
set_option maxHeartbeats 4000000 in
set_option maxRecDepth 100000 in
theorem c_X8_wipe (l : Launch) (D : va_G) (cy : Nat → ClassId) (sz : Nat) (bd : Nat → Nat) (um_ : Nat) (ln_ : Nat) (at_ : Nat) (iw_ : Bool) : zWi l yX8_wipe w_X8_wipe r_X8_wipe D cy [((bd 0), .inr (5, [.int (nI 0), .ref (bd 1), .ref (bd 2), .int (nI um_), .ref (bd 3), .ref (bd 4), .ref (bd 5), .int (nI ln_), .int (nI at_), .int (if iw_ = true then 1 else 0), .ref (bd 6), .ref (bd 7), .ref (bd 8), .ref (bd 9), .ref (bd 10), .ref (bd 11), .ref (bd 12), .ref (bd 13), .ref (bd 14)]))] sz [.ref (bd 0)] (fun (r_ : Int32) (u : Unit) => r_ = (nI ln_) ∧ True) (fun u : Unit => ([((bd 0), .inr (5, [.int (nI 0), .ref (bd 1), .ref (bd 2), .int (nI um_), .ref (bd 3), .ref (bd 4), .ref (bd 5), .int (nI 0), .int (nI at_), .int (if iw_ = true then 1 else 0), .ref (bd 6), .ref (bd 7), .ref (bd 8), .ref (bd 9), .ref (bd 10), .ref (bd 11), .ref (bd 12), .ref (bd 13), .ref (bd 14)]))] : va_W)) := by
  refine zOfW (cc := cX8_wipe) (maxL := 2) (ty := .int) (by decide) rfl (Nat.le_of_ble_eq_true rfl) ?_
  intro zp ze zs zm za zb zme zc hx hb hml hts hown hP hK zA hD hA Q kr ls hl
  have hS : va_S zA zs.heap zs.heap [] := va_S.rf
  have hown : zs.vm.findClass RX8 = some zm.cls := hown
  have hl : lv_has ls 2 [(0, .ref (bd 0))] := hl
  refine lv_aload_n hx hb dX8_wipe_0 rfl (lv_at hl 0 rfl) ?_
  refine lv_iconst (v := nI 0) hx hb dX8_wipe_1 (by decide) ?_
  refine va_put (D := D) (ci := 5) (v := .int (nI 0)) (ty := .int) (C := RX8) (T := TX8) (N := 19) hx hb hts (fun w h => List.mem_cons_of_mem _ (zinX8 w h)) tyX8 tyX8_ok nmX8 hown hK.1 hP hD hS 0 rfl rfl 0 (by decide) (hts _ (List.mem_cons_of_mem _ zw_88)) (fun _ h9 => h9) rfl (tyX8_ok 0 (by decide)) rfl rfl (Nat.le_of_ble_eq_true rfl) dX8_wipe_2 (fun H locs hP hD hS => ?_)
  have hP : va_P D vwCl [((bd 0), .inr (5, [.int (nI 0), .ref (bd 1), .ref (bd 2), .int (nI um_), .ref (bd 3), .ref (bd 4), .ref (bd 5), .int (nI ln_), .int (nI at_), .int (if iw_ = true then 1 else 0), .ref (bd 6), .ref (bd 7), .ref (bd 8), .ref (bd 9), .ref (bd 10), .ref (bd 11), .ref (bd 12), .ref (bd 13), .ref (bd 14)]))] H := hP
  have hD : va_D zA [((bd 0), .inr (5, [.int (nI 0), .ref (bd 1), .ref (bd 2), .int (nI um_), .ref (bd 3), .ref (bd 4), .ref (bd 5), .int (nI ln_), .int (nI at_), .int (if iw_ = true then 1 else 0), .ref (bd 6), .ref (bd 7), .ref (bd 8), .ref (bd 9), .ref (bd 10), .ref (bd 11), .ref (bd 12), .ref (bd 13), .ref (bd 14)]))] := hD
  refine lv_aload_n hx hb dX8_wipe_5 rfl (lv_at hl 0 rfl) ?_
  refine va_get (D := D) (ci := 5) (v := .int (nI ln_)) (C := RX8) (T := TX8) (N := 19) hx hb hts (fun w h => List.mem_cons_of_mem _ (zinX8 w h)) hown hK.1 hP 0 rfl rfl 7 (by decide) (hts _ (List.mem_cons_of_mem _ zw_195)) (fun _ h9 => h9) rfl dX8_wipe_6 ?_
  refine lv_istore_n (lv' := [(1, .int (nI ln_)), (0, .ref (bd 0))]) hx hb dX8_wipe_9 rfl hl (by decide) rfl (fun ls hl => ?_)
  refine lv_aload_n hx hb dX8_wipe_10 rfl (lv_at hl 1 rfl) ?_
  refine lv_iconst (v := nI 0) hx hb dX8_wipe_11 (by decide) ?_
  refine va_put (D := D) (ci := 5) (v := .int (nI 0)) (ty := .int) (C := RX8) (T := TX8) (N := 19) hx hb hts (fun w h => List.mem_cons_of_mem _ (zinX8 w h)) tyX8 tyX8_ok nmX8 hown hK.1 hP hD hS 0 rfl rfl 7 (by decide) (hts _ (List.mem_cons_of_mem _ zw_195)) (fun _ h9 => h9) rfl (tyX8_ok 7 (by decide)) rfl rfl (Nat.le_of_ble_eq_true rfl) dX8_wipe_12 (fun H locs hP hD hS => ?_)
  have hP : va_P D vwCl [((bd 0), .inr (5, [.int (nI 0), .ref (bd 1), .ref (bd 2), .int (nI um_), .ref (bd 3), .ref (bd 4), .ref (bd 5), .int (nI 0), .int (nI at_), .int (if iw_ = true then 1 else 0), .ref (bd 6), .ref (bd 7), .ref (bd 8), .ref (bd 9), .ref (bd 10), .ref (bd 11), .ref (bd 12), .ref (bd 13), .ref (bd 14)]))] H := hP
  have hD : va_D zA [((bd 0), .inr (5, [.int (nI 0), .ref (bd 1), .ref (bd 2), .int (nI um_), .ref (bd 3), .ref (bd 4), .ref (bd 5), .int (nI 0), .int (nI at_), .int (if iw_ = true then 1 else 0), .ref (bd 6), .ref (bd 7), .ref (bd 8), .ref (bd 9), .ref (bd 10), .ref (bd 11), .ref (bd 12), .ref (bd 13), .ref (bd 14)]))] := hD
  refine lv_iload_n hx hb dX8_wipe_15 rfl (lv_at hl 0 rfl) ?_
  exact kr _ () _ _ _ _ dX8_wipe_16 (vp_nar_int _) ⟨rfl, trivial⟩ hP hD hS
abbrev w_X8_letter : List Cond := Cond.code yX8_letter cX8_letter 1 (some .int) :: zAll
abbrev r_X8_letter : Room := { frames := 0, cells := 0, slots := 0, locals := 0 }
theorem zd_X8_letter : yX8_letter.cls = RX8 ∧ yX8_letter.cls ≠ "java/lang/invoke/MethodHandle" ∧ yX8_letter.cls ≠ "java/lang/invoke/VarHandle" ∧ (parseMethodDescriptor yX8_letter.desc).map (fun d => d.parameters.length) = some 0 := by decide +kernel
set_option maxHeartbeats 4000000 in
set_option maxRecDepth 100000 in
theorem c_X8_letter (l : Launch) (D : va_G) (cy : Nat → ClassId) (bd : Nat → Nat) (um_ : Nat) (ln_ : Nat) (at_ : Nat) (iw_ : Bool) (pd_ : Nat → Nat) (hp : ln_ ≤ 80) (hpd : ∀ q_, q_ < ln_ → 33 ≤ pd_ q_ ∧ pd_ q_ ≤ 126) (hat : at_ ≤ ln_) : zMi l yX8_letter w_X8_letter r_X8_letter D cy [((bd 0), .inr (5, [.int (nI 0), .ref (bd 1), .ref (bd 2), .int (nI um_), .ref (bd 3), .ref (bd 4), .ref (bd 5), .int (nI ln_), .int (nI at_), .int (if iw_ = true then 1 else 0), .ref (bd 6), .ref (bd 7), .ref (bd 8), .ref (bd 9), .ref (bd 10), .ref (bd 11), .ref (bd 12), .ref (bd 13), .ref (bd 14)])), ((bd 5), .inl (cy 0, 80, .inl (nIf pd_)))] [.ref (bd 0)] (fun r_ => r_ = (nI (ltr pd_ ln_ at_))) := by
  refine zOfR (cc := cX8_letter) (maxL := 1) (ty := .int) (by decide) rfl (Nat.le_of_ble_eq_true rfl) ?_
  intro zp ze zs zm za zb zme zc hx hb hml hts hown hP hK Q kr ls hl
  have hown : zs.vm.findClass RX8 = some zm.cls := hown
  have hl : lv_has ls 1 [(0, .ref (bd 0))] := hl
  refine lv_aload_n hx hb dX8_letter_0 rfl (lv_at hl 0 rfl) ?_
  refine va_get (D := D) (ci := 5) (v := .int (nI at_)) (C := RX8) (T := TX8) (N := 19) hx hb hts (fun w h => List.mem_cons_of_mem _ (zinX8 w h)) hown hK.1 hP 0 rfl rfl 8 (by decide) (hts _ (List.mem_cons_of_mem _ zw_200)) (fun _ h9 => h9) rfl dX8_letter_1 ?_
  refine lv_aload_n hx hb dX8_letter_4 rfl (lv_at hl 0 rfl) ?_
  refine va_get (D := D) (ci := 5) (v := .int (nI ln_)) (C := RX8) (T := TX8) (N := 19) hx hb hts (fun w h => List.mem_cons_of_mem _ (zinX8 w h)) hown hK.1 hP 0 rfl rfl 7 (by decide) (hts _ (List.mem_cons_of_mem _ zw_195)) (fun _ h9 => h9) rfl dX8_letter_5 ?_
  refine zb_ge (a := at_) (b := ln_) (tgt := 23) hx hb dX8_letter_8 (by decide) (by omega) (by omega) (fun c8 => ?_) (fun c8 => ?_)
  · skip
    refine lv_iconst (v := nI 0) hx hb dX8_letter_23 (by decide) ?_
    exact kr _ _ _ dX8_letter_24 (vp_nar_int _) (congrArg nI (ltr_out c8).symm)
  · skip
    refine lv_aload_n hx hb dX8_letter_11 rfl (lv_at hl 0 rfl) ?_
    refine va_get (D := D) (ci := 5) (v := .ref (bd 5)) (C := RX8) (T := TX8) (N := 19) hx hb hts (fun w h => List.mem_cons_of_mem _ (zinX8 w h)) hown hK.1 hP 0 rfl rfl 6 (by decide) (hts _ (List.mem_cons_of_mem _ zw_78)) (fun _ h9 => h9) rfl dX8_letter_12 ?_
    refine lv_aload_n hx hb dX8_letter_15 rfl (lv_at hl 0 rfl) ?_
    refine va_get (D := D) (ci := 5) (v := .int (nI at_)) (C := RX8) (T := TX8) (N := 19) hx hb hts (fun w h => List.mem_cons_of_mem _ (zinX8 w h)) hown hK.1 hP 0 rfl rfl 8 (by decide) (hts _ (List.mem_cons_of_mem _ zw_200)) (fun _ h9 => h9) rfl dX8_letter_16 ?_
    refine zi_iald (v := nI (pd_ at_)) hx hb hK hP 1 rfl (by omega) (by omega) rfl dX8_letter_19 ?_
    refine lv_goto (tgt := 24) hx hb dX8_letter_20 (by decide) ?_
    exact kr _ _ _ dX8_letter_24 (vp_nar_int _) (congrArg nI (ltr_in (by omega)).symm)
abbrev w_X8_isLeft : List Cond := Cond.code yX8_isLeft cX8_isLeft 2 (some .boolean) :: zAll
abbrev r_X8_isLeft : Room := { frames := 2, cells := 0, slots := 0, locals := 43 }
theorem zd_X8_isLeft : yX8_isLeft.cls = RX8 ∧ yX8_isLeft.cls ≠ "java/lang/invoke/MethodHandle" ∧ yX8_isLeft.cls ≠ "java/lang/invoke/VarHandle" ∧ (parseMethodDescriptor yX8_isLeft.desc).map (fun d => d.parameters.length) = some 1 := by decide +kernel
set_option maxHeartbeats 4000000 in
set_option maxRecDepth 100000 in
theorem c_X8_isLeft (l : Launch) (D : va_G) (cy : Nat → ClassId) (bd : Nat → Nat) (um_ : Nat) (ln_ : Nat) (at_ : Nat) (iw_ : Bool) (f_ : Nat → Nat) (is_ : Nat → Bool) (us_ : Nat) (p_ : Nat) (hN_ : f_ 0 ≤ 16) (his : ∀ q_, q_ < 16 → is_ q_ = us_.testBit q_) (hp : p_ < 32) : zMi l yX8_isLeft w_X8_isLeft r_X8_isLeft D cy [((bd 0), .inr (5, [.int (nI 0), .ref (bd 1), .ref (bd 2), .int (nI um_), .ref (bd 3), .ref (bd 4), .ref (bd 5), .int (nI ln_), .int (nI at_), .int (if iw_ = true then 1 else 0), .ref (bd 6), .ref (bd 7), .ref (bd 8), .ref (bd 9), .ref (bd 10), .ref (bd 11), .ref (bd 12), .ref (bd 13), .ref (bd 14)])), ((bd 1), .inl (cy 0, 130, .inl (nIf f_))), ((bd 7), .inl (cy 2, 16, .inl (nBf is_)))] [.ref (bd 0), .int (nI p_)] (fun r_ => r_ = (if frE (f_ 0) us_ p_ = true then 1 else 0)) := by
  refine zOfR (cc := cX8_isLeft) (maxL := 2) (ty := .boolean) (by decide) rfl (Nat.le_of_ble_eq_true rfl) ?_
  intro zp ze zs zm za zb zme zc hx hb hml hts hown hP hK Q kr ls hl
  have hown : zs.vm.findClass RX8 = some zm.cls := hown
  have hl : lv_has ls 2 [(0, .ref (bd 0)), (1, .int (nI p_))] := hl
  have hp_ : (nI p_).toInt = ((p_ : Nat) : Int) := nI_toInt (by omega)
  refine lv_aload_n hx hb dX8_isLeft_0 rfl (lv_at hl 0 rfl) ?_
  refine lv_iload_n hx hb dX8_isLeft_1 rfl (lv_at hl 1 rfl) ?_
  refine zcRi (As := [.int (nI p_)]) (rest := []) ⟨hx, hb, hml, hown, hts⟩ (c_X8_isPlace l D cy bd um_ ln_ at_ iw_ f_ (nI p_) (by omega)) (cwV 1 hts (zG_V zw_222 zw_223 zw_224 zw_5 zw_225) rfl rfl rfl zd_X8_isPlace ⟨Nat.le_of_ble_eq_true rfl, Nat.le_of_ble_eq_true rfl⟩) hK hP [0, 1] rfl rfl rfl rfl rfl hl.1 rfl (Nat.le_of_ble_eq_true rfl) dX8_isLeft_2 ⟨Nat.zero_le _, Nat.zero_le _⟩ (fun r2 h2 => ?_)
  subst h2
  refine zq_eq (tgt := 21) hx hb dX8_isLeft_5 (by decide) (fun c5 => ?_) (fun c5 => ?_)
  · skip
    refine lv_iconst (v := nI 0) hx hb dX8_isLeft_21 (by decide) ?_
    exact kr _ _ _ dX8_isLeft_22 rfl (b0 (fun q_ => c5 (by have := frE_lt q_; omega)))
  · skip
    refine lv_aload_n hx hb dX8_isLeft_8 rfl (lv_at hl 0 rfl) ?_
    refine va_get (D := D) (ci := 5) (v := .ref (bd 7)) (C := RX8) (T := TX8) (N := 19) hx hb hts (fun w h => List.mem_cons_of_mem _ (zinX8 w h)) hown hK.1 hP 0 rfl rfl 11 (by decide) (hts _ (List.mem_cons_of_mem _ zw_80)) (fun _ h9 => h9) rfl dX8_isLeft_9 ?_
    refine lv_iload_n hx hb dX8_isLeft_12 rfl (lv_at hl 1 rfl) ?_
    refine zi_zald (v := if is_ p_ = true then 1 else 0) hx hb hK hP 2 rfl (by omega) (by omega) rfl dX8_isLeft_13 ?_
    refine zq_ne (tgt := 21) hx hb dX8_isLeft_14 (by decide) (fun c14 => ?_) (fun c14 => ?_)
    · skip
      refine lv_iconst (v := nI 0) hx hb dX8_isLeft_21 (by decide) ?_
      exact kr _ _ _ dX8_isLeft_22 rfl (b0 (fun q_ => ((frE_is (by omega) his).mp q_).2 c14))
    · skip
      refine lv_iconst (v := nI 1) hx hb dX8_isLeft_17 (by decide) ?_
      refine lv_goto (tgt := 22) hx hb dX8_isLeft_18 (by decide) ?_
      exact kr _ _ _ dX8_isLeft_22 rfl (b1 ((frE_is (by omega) his).mpr ⟨by omega, c14⟩))
abbrev w_X8_canBegin : List Cond := Cond.code yX8_canBegin cX8_canBegin 4 (some .boolean) :: zAll
abbrev r_X8_canBegin : Room := { frames := 3, cells := 0, slots := 0, locals := 64 }
theorem zd_X8_canBegin : yX8_canBegin.cls = RX8 ∧ yX8_canBegin.cls ≠ "java/lang/invoke/MethodHandle" ∧ yX8_canBegin.cls ≠ "java/lang/invoke/VarHandle" ∧ (parseMethodDescriptor yX8_canBegin.desc).map (fun d => d.parameters.length) = some 1 := by decide +kernel
set_option maxHeartbeats 4000000 in
set_option maxRecDepth 100000 in
theorem c_X8_canBegin (l : Launch) (D : va_G) (cy : Nat → ClassId) (bd : Nat → Nat) (um_ : Nat) (ln_ : Nat) (at_ : Nat) (iw_ : Bool) (f_ : Nat → Nat) (is_ : Nat → Bool) (us_ : Nat) (d_ : Nat) (hN_ : f_ 0 ≤ 16) (his : ∀ q_, q_ < 16 → is_ q_ = us_.testBit q_) (hd : d_ ≤ 9) : zMi l yX8_canBegin w_X8_canBegin r_X8_canBegin D cy [((bd 0), .inr (5, [.int (nI 0), .ref (bd 1), .ref (bd 2), .int (nI um_), .ref (bd 3), .ref (bd 4), .ref (bd 5), .int (nI ln_), .int (nI at_), .int (if iw_ = true then 1 else 0), .ref (bd 6), .ref (bd 7), .ref (bd 8), .ref (bd 9), .ref (bd 10), .ref (bd 11), .ref (bd 12), .ref (bd 13), .ref (bd 14)])), ((bd 1), .inl (cy 0, 130, .inl (nIf f_))), ((bd 7), .inl (cy 2, 16, .inl (nBf is_)))] [.ref (bd 0), .int (nI d_)] (fun r_ => r_ = (if begF (f_ 0) us_ d_ = true then 1 else 0)) := by
  refine zOfR (cc := cX8_canBegin) (maxL := 4) (ty := .boolean) (by decide) rfl (Nat.le_of_ble_eq_true rfl) ?_
  intro zp ze zs zm za zb zme zc hx hb hml hts hown hP hK Q kr ls hl
  have hown : zs.vm.findClass RX8 = some zm.cls := hown
  have hl : lv_has ls 4 [(0, .ref (bd 0)), (1, .int (nI d_))] := hl
  refine lv_aload_n hx hb dX8_canBegin_0 rfl (lv_at hl 0 rfl) ?_
  refine lv_iload_n hx hb dX8_canBegin_1 rfl (lv_at hl 1 rfl) ?_
  refine zcRi (As := [.int (nI d_)]) (rest := []) ⟨hx, hb, hml, hown, hts⟩ (c_X8_isLeft l D cy bd um_ ln_ at_ iw_ f_ is_ us_ d_ (by omega) his (by omega)) (cwV 1 hts (zG_V zw_218 zw_219 zw_220 zw_5 zw_221) rfl rfl rfl zd_X8_isLeft ⟨Nat.le_of_ble_eq_true rfl, Nat.le_of_ble_eq_true rfl⟩) hK hP [0, 1, 2] rfl rfl rfl rfl rfl hl.1 rfl (Nat.le_of_ble_eq_true rfl) dX8_canBegin_2 ⟨Nat.zero_le _, Nat.zero_le _⟩ (fun r2 h2 => ?_)
  subst h2
  refine zi_top (v := if cbF (f_ 0) us_ d_ 10 = true then 1 else 0) (by rw [cbF_10 _ _ _ _ (Nat.le_refl _)]) ?_
  refine lv_istore_n (lv' := [(2, .int (if cbF (f_ 0) us_ d_ 10 = true then 1 else 0)), (0, .ref (bd 0)), (1, .int (nI d_))]) hx hb dX8_canBegin_5 rfl hl (by decide) rfl (fun ls hl => ?_)
  refine lv_bipush (v := nI 10) hx hb dX8_canBegin_6 (by decide) ?_
  refine lv_istore_n (lv' := [(3, .int (nI 10)), (2, .int (if cbF (f_ 0) us_ d_ 10 = true then 1 else 0)), (0, .ref (bd 0)), (1, .int (nI d_))]) hx hb dX8_canBegin_8 rfl hl (by decide) rfl (fun ls hl => ?_)
  have L9 : ∀ (kf_ : Nat) (i_ : Nat) (h10 : 10 ≤ i_) (hi : i_ ≤ 16), 16 - i_ < kf_ → ∀ ls : Array Slot, lv_has ls 4 [(0, .ref (bd 0)), (1, .int (nI d_)), (2, .int (if cbF (f_ 0) us_ d_ i_ = true then 1 else 0)), (3, .int (nI i_))] → W zp l ze r_X8_canBegin zs zm za zb zme zc zs.heap [] 0 0 Q (F0 zm 9 ls []) := by
    intro kf_
    induction kf_ with
    | zero => intro i_ h10 hi hk_; exact absurd hk_ (Nat.not_lt_zero _)
    | succ kf_ ih9 =>
      intro i_ h10 hi hk_ ls hl
      refine lv_iload_n hx hb dX8_canBegin_9 rfl (lv_at hl 3 rfl) ?_
      refine lv_aload_n hx hb dX8_canBegin_10 rfl (lv_at hl 0 rfl) ?_
      refine va_get (D := D) (ci := 5) (v := .ref (bd 1)) (C := RX8) (T := TX8) (N := 19) hx hb hts (fun w h => List.mem_cons_of_mem _ (zinX8 w h)) hown hK.1 hP 0 rfl rfl 1 (by decide) (hts _ (List.mem_cons_of_mem _ zw_74)) (fun _ h9 => h9) rfl dX8_canBegin_11 ?_
      refine lv_iconst (v := nI 0) hx hb dX8_canBegin_14 (by decide) ?_
      refine zi_iald (v := nI (f_ 0)) hx hb hK hP 1 rfl (by omega) (by omega) rfl dX8_canBegin_15 ?_
      refine zb_ge (a := i_) (b := f_ 0) (tgt := 49) hx hb dX8_canBegin_16 (by decide) (by omega) (by omega) (fun c16 => ?_) (fun c16 => ?_)
      · skip
        refine lv_iload_n hx hb dX8_canBegin_49 rfl (lv_at hl 2 rfl) ?_
        exact kr _ _ _ dX8_canBegin_50 (zz_narb _) (by rw [cbF_end hN_ hd (by omega)])
      · skip
        refine lv_iload_n hx hb dX8_canBegin_19 rfl (lv_at hl 2 rfl) ?_
        refine zq_ne (tgt := 37) hx hb dX8_canBegin_20 (by decide) (fun c20 => ?_) (fun c20 => ?_)
        · skip
          refine lv_iconst (v := nI 1) hx hb dX8_canBegin_37 (by decide) ?_
          refine lv_goto (tgt := 42) hx hb dX8_canBegin_38 (by decide) ?_
          refine zi_top (v := if cbF (f_ 0) us_ d_ (i_ + 1) = true then 1 else 0) (b1 (cb_t1 c20)) ?_
          refine lv_istore_n (lv' := [(2, .int (if cbF (f_ 0) us_ d_ (i_ + 1) = true then 1 else 0)), (0, .ref (bd 0)), (1, .int (nI d_)), (3, .int (nI i_))]) hx hb dX8_canBegin_42 rfl hl (by decide) rfl (fun ls hl => ?_)
          refine lv_iinc (v := nI (i_ + 1)) (lv' := [(3, .int (nI (i_ + 1))), (2, .int (if cbF (f_ 0) us_ d_ (i_ + 1) = true then 1 else 0)), (0, .ref (bd 0)), (1, .int (nI d_))]) hx hb dX8_canBegin_43 hl (k := 3) rfl (nI_1 _) (by decide) rfl (fun ls hl => ?_)
          refine lv_goto (tgt := 9) hx hb dX8_canBegin_46 (by decide) ?_
          exact ih9 (i_ + 1) (by omega) (by omega) (by omega) _ (lv_sub hl [2, 3, 1, 0] rfl)
        · skip
          refine lv_iload_n hx hb dX8_canBegin_23 rfl (lv_at hl 1 rfl) ?_
          refine lv_iconst (v := nI 1) hx hb dX8_canBegin_24 (by decide) ?_
          refine zb_ne (a := d_) (b := 1) (tgt := 41) hx hb dX8_canBegin_25 (by decide) (by omega) (by omega) (fun c25 => ?_) (fun c25 => ?_)
          · skip
            refine lv_iconst (v := nI 0) hx hb dX8_canBegin_41 (by decide) ?_
            refine zi_top (v := if cbF (f_ 0) us_ d_ (i_ + 1) = true then 1 else 0) (b0 (cb_f1 c20 c25)) ?_
            refine lv_istore_n (lv' := [(2, .int (if cbF (f_ 0) us_ d_ (i_ + 1) = true then 1 else 0)), (0, .ref (bd 0)), (1, .int (nI d_)), (3, .int (nI i_))]) hx hb dX8_canBegin_42 rfl hl (by decide) rfl (fun ls hl => ?_)
            refine lv_iinc (v := nI (i_ + 1)) (lv' := [(3, .int (nI (i_ + 1))), (2, .int (if cbF (f_ 0) us_ d_ (i_ + 1) = true then 1 else 0)), (0, .ref (bd 0)), (1, .int (nI d_))]) hx hb dX8_canBegin_43 hl (k := 3) rfl (nI_1 _) (by decide) rfl (fun ls hl => ?_)
            refine lv_goto (tgt := 9) hx hb dX8_canBegin_46 (by decide) ?_
            exact ih9 (i_ + 1) (by omega) (by omega) (by omega) _ (lv_sub hl [2, 3, 1, 0] rfl)
          · skip
            refine lv_aload_n hx hb dX8_canBegin_28 rfl (lv_at hl 0 rfl) ?_
            refine va_get (D := D) (ci := 5) (v := .ref (bd 7)) (C := RX8) (T := TX8) (N := 19) hx hb hts (fun w h => List.mem_cons_of_mem _ (zinX8 w h)) hown hK.1 hP 0 rfl rfl 11 (by decide) (hts _ (List.mem_cons_of_mem _ zw_80)) (fun _ h9 => h9) rfl dX8_canBegin_29 ?_
            refine lv_iload_n hx hb dX8_canBegin_32 rfl (lv_at hl 3 rfl) ?_
            refine zi_zald (v := if is_ i_ = true then 1 else 0) hx hb hK hP 2 rfl (by omega) (by omega) rfl dX8_canBegin_33 ?_
            refine zq_ne (tgt := 41) hx hb dX8_canBegin_34 (by decide) (fun c34 => ?_) (fun c34 => ?_)
            · skip
              refine lv_iconst (v := nI 0) hx hb dX8_canBegin_41 (by decide) ?_
              refine zi_top (v := if cbF (f_ 0) us_ d_ (i_ + 1) = true then 1 else 0) (b0 (cb_f2 c20 (fun q_ => ((frE_is (by omega) his).mp q_).2 c34))) ?_
              refine lv_istore_n (lv' := [(2, .int (if cbF (f_ 0) us_ d_ (i_ + 1) = true then 1 else 0)), (0, .ref (bd 0)), (1, .int (nI d_)), (3, .int (nI i_))]) hx hb dX8_canBegin_42 rfl hl (by decide) rfl (fun ls hl => ?_)
              refine lv_iinc (v := nI (i_ + 1)) (lv' := [(3, .int (nI (i_ + 1))), (2, .int (if cbF (f_ 0) us_ d_ (i_ + 1) = true then 1 else 0)), (0, .ref (bd 0)), (1, .int (nI d_))]) hx hb dX8_canBegin_43 hl (k := 3) rfl (nI_1 _) (by decide) rfl (fun ls hl => ?_)
              refine lv_goto (tgt := 9) hx hb dX8_canBegin_46 (by decide) ?_
              exact ih9 (i_ + 1) (by omega) (by omega) (by omega) _ (lv_sub hl [2, 3, 1, 0] rfl)
            · skip
              refine lv_iconst (v := nI 1) hx hb dX8_canBegin_37 (by decide) ?_
              refine lv_goto (tgt := 42) hx hb dX8_canBegin_38 (by decide) ?_
              refine zi_top (v := if cbF (f_ 0) us_ d_ (i_ + 1) = true then 1 else 0) (b1 (cb_t2 c25 h10 ((frE_is (by omega) his).mpr ⟨by omega, c34⟩))) ?_
              refine lv_istore_n (lv' := [(2, .int (if cbF (f_ 0) us_ d_ (i_ + 1) = true then 1 else 0)), (0, .ref (bd 0)), (1, .int (nI d_)), (3, .int (nI i_))]) hx hb dX8_canBegin_42 rfl hl (by decide) rfl (fun ls hl => ?_)
              refine lv_iinc (v := nI (i_ + 1)) (lv' := [(3, .int (nI (i_ + 1))), (2, .int (if cbF (f_ 0) us_ d_ (i_ + 1) = true then 1 else 0)), (0, .ref (bd 0)), (1, .int (nI d_))]) hx hb dX8_canBegin_43 hl (k := 3) rfl (nI_1 _) (by decide) rfl (fun ls hl => ?_)
              refine lv_goto (tgt := 9) hx hb dX8_canBegin_46 (by decide) ?_
              exact ih9 (i_ + 1) (by omega) (by omega) (by omega) _ (lv_sub hl [2, 3, 1, 0] rfl)
  exact L9 (16 - 10 + 1) 10 (by omega) (by omega) (Nat.lt_succ_self _) _ (lv_sub hl [2, 3, 1, 0] rfl)
abbrev w_X8_place : List Cond := Cond.code yX8_place cX8_place 3 (some .int) :: zAll
abbrev r_X8_place : Room := { frames := 4, cells := 0, slots := 0, locals := 87 }
theorem zd_X8_place : yX8_place.cls = RX8 ∧ yX8_place.cls ≠ "java/lang/invoke/MethodHandle" ∧ yX8_place.cls ≠ "java/lang/invoke/VarHandle" ∧ (parseMethodDescriptor yX8_place.desc).map (fun d => d.parameters.length) = some 0 := by decide +kernel
set_option maxHeartbeats 4000000 in
set_option maxRecDepth 100000 in
theorem c_X8_place (l : Launch) (D : va_G) (cy : Nat → ClassId) (sz : Nat) (bd : Nat → Nat) (um_ : Nat) (ln_ : Nat) (at_ : Nat) (iw_ : Bool) (f_ : Nat → Nat) (pd_ : Nat → Nat) (is_ : Nat → Bool) (us_ : Nat) (z0_ : RS) (mv_ : Int64) (dg_ : Nat) (ic_ : Nat) (fi_ : Nat) (la_ : Nat) (hN_ : f_ 0 ≤ 16) (hp : ln_ ≤ 80) (hpd : ∀ q_, q_ < ln_ → 33 ≤ pd_ q_ ∧ pd_ q_ ≤ 126) (hat : at_ ≤ ln_) (his : ∀ q_, q_ < 16 → is_ q_ = us_.testBit q_) (hAs : rsAt (f_ 0) pd_ z0_ at_ = (2, mv_, us_, dg_, ic_, fi_, la_)) (hsy : Syn (f_ 0) pd_ z0_ at_) : zWi l yX8_place w_X8_place r_X8_place D cy [((bd 0), .inr (5, [.int (nI 0), .ref (bd 1), .ref (bd 2), .int (nI um_), .ref (bd 3), .ref (bd 4), .ref (bd 5), .int (nI ln_), .int (nI at_), .int (if iw_ = true then 1 else 0), .ref (bd 6), .ref (bd 7), .ref (bd 8), .ref (bd 9), .ref (bd 10), .ref (bd 11), .ref (bd 12), .ref (bd 13), .ref (bd 14)])), ((bd 1), .inl (cy 0, 130, .inl (nIf f_))), ((bd 5), .inl (cy 0, 80, .inl (nIf pd_))), ((bd 7), .inl (cy 2, 16, .inl (nBf is_)))] sz [.ref (bd 0)] (fun (r_ : Int32) (u : Nat × Bool × (Nat → Bool)) => PlaceR (f_ 0) pd_ z0_ ln_ at_ mv_ us_ ic_ fi_ la_ is_ r_ u.1 u.2.1 u.2.2) (fun u : Nat × Bool × (Nat → Bool) => ([((bd 0), .inr (5, [.int (nI 0), .ref (bd 1), .ref (bd 2), .int (nI um_), .ref (bd 3), .ref (bd 4), .ref (bd 5), .int (nI ln_), .int (nI u.1), .int (if u.2.1 = true then 1 else 0), .ref (bd 6), .ref (bd 7), .ref (bd 8), .ref (bd 9), .ref (bd 10), .ref (bd 11), .ref (bd 12), .ref (bd 13), .ref (bd 14)])), ((bd 1), .inl (cy 0, 130, .inl (nIf f_))), ((bd 5), .inl (cy 0, 80, .inl (nIf pd_))), ((bd 7), .inl (cy 2, 16, .inl (nBf u.2.2)))] : va_W)) := by
  refine zOfW (cc := cX8_place) (maxL := 3) (ty := .int) (by decide) rfl (Nat.le_of_ble_eq_true rfl) ?_
  intro zp ze zs zm za zb zme zc hx hb hml hts hown hP hK zA hD hA Q kr ls hl
  have hS : va_S zA zs.heap zs.heap [] := va_S.rf
  have hown : zs.vm.findClass RX8 = some zm.cls := hown
  have hl : lv_has ls 3 [(0, .ref (bd 0))] := hl
  refine lv_aload_n hx hb dX8_place_0 rfl (lv_at hl 0 rfl) ?_
  refine zcRi (As := []) (rest := []) ⟨hx, hb, hml, hown, hts⟩ (c_X8_letter l D cy bd um_ ln_ at_ iw_ pd_ (by omega) hpd (by omega)) (cwV 0 hts (zG_V zw_202 zw_203 zw_204 zw_5 zw_205) rfl rfl rfl zd_X8_letter ⟨Nat.le_of_ble_eq_true rfl, Nat.le_of_ble_eq_true rfl⟩) hK hP [0, 2] rfl rfl rfl rfl rfl hl.1 rfl (Nat.le_of_ble_eq_true rfl) dX8_place_1 ⟨Nat.zero_le _, Nat.zero_le _⟩ (fun r1 h1 => ?_)
  subst h1
  have hL6 := ltr_lt hpd at_
  refine lv_bipush (v := nI 48) hx hb dX8_place_4 (by decide) ?_
  refine zi_sub (v := nI (ltr pd_ ln_ at_) - nI 48) hx hb dX8_place_6 rfl ?_
  refine lv_istore_n (lv' := [(1, .int (nI (ltr pd_ ln_ at_) - nI 48)), (0, .ref (bd 0))]) hx hb dX8_place_7 rfl hl (by decide) rfl (fun ls hl => ?_)
  have hL8 := ltr_lt hpd at_
  have hs8 : (nI (ltr pd_ ln_ at_) - nI 48).toInt = ((ltr pd_ ln_ at_ : Nat) : Int) - ((48 : Nat) : Int) := pk_sub_toInt (by omega) (by omega)
  have hk0_ : (nI 0).toInt = 0 := rfl
  have hk9_ : (nI 9).toInt = 9 := rfl
  refine lv_aload_n hx hb dX8_place_8 rfl (lv_at hl 1 rfl) ?_
  refine lv_iload_n hx hb dX8_place_9 rfl (lv_at hl 0 rfl) ?_
  refine lv_iconst (v := nI 0) hx hb dX8_place_10 (by decide) ?_
  refine lv_bipush (v := nI 9) hx hb dX8_place_11 (by decide) ?_
  refine zcSi (As := [.int (nI (ltr pd_ ln_ at_) - nI 48), .int (nI 0), .int (nI 9)]) (rest := [.ref (bd 0)]) ⟨hx, hb, hml, hown, hts⟩ (c_X8_in l D cy (nI (ltr pd_ ln_ at_) - nI 48) (nI 0) (nI 9)) (va_cwS 3 hts (zG_S zw_121 zw_122 zw_5 zw_123) rfl rfl rfl zd_X8_in ⟨Nat.le_of_ble_eq_true rfl, Nat.le_of_ble_eq_true rfl⟩) hK hP [] rfl rfl hl.1 rfl (Nat.le_of_ble_eq_true rfl) dX8_place_13 ⟨Nat.zero_le _, Nat.zero_le _⟩ (fun r13 h13 => ?_)
  subst h13
  refine zq_eq (tgt := 31) hx hb dX8_place_16 (by decide) (fun c16 => ?_) (fun c16 => ?_)
  · skip
    refine lv_iconst (v := nI 0) hx hb dX8_place_31 (by decide) ?_
    refine va_put (D := D) (ci := 5) (v := .int (nI 0)) (ty := .boolean) (C := RX8) (T := TX8) (N := 19) hx hb hts (fun w h => List.mem_cons_of_mem _ (zinX8 w h)) tyX8 tyX8_ok nmX8 hown hK.1 hP hD hS 0 rfl rfl 9 (by decide) (hts _ (List.mem_cons_of_mem _ zw_201)) (fun _ h9 => h9) rfl (tyX8_ok 9 (by decide)) rfl rfl (Nat.le_of_ble_eq_true rfl) dX8_place_32 (fun H locs hP hD hS => ?_)
    have hP : va_P D vwCl [((bd 0), .inr (5, [.int (nI 0), .ref (bd 1), .ref (bd 2), .int (nI um_), .ref (bd 3), .ref (bd 4), .ref (bd 5), .int (nI ln_), .int (nI at_), .int (nI 0), .ref (bd 6), .ref (bd 7), .ref (bd 8), .ref (bd 9), .ref (bd 10), .ref (bd 11), .ref (bd 12), .ref (bd 13), .ref (bd 14)])), ((bd 1), .inl (cy 0, 130, .inl (nIf f_))), ((bd 5), .inl (cy 0, 80, .inl (nIf pd_))), ((bd 7), .inl (cy 2, 16, .inl (nBf is_)))] H := hP
    have hD : va_D zA [((bd 0), .inr (5, [.int (nI 0), .ref (bd 1), .ref (bd 2), .int (nI um_), .ref (bd 3), .ref (bd 4), .ref (bd 5), .int (nI ln_), .int (nI at_), .int (nI 0), .ref (bd 6), .ref (bd 7), .ref (bd 8), .ref (bd 9), .ref (bd 10), .ref (bd 11), .ref (bd 12), .ref (bd 13), .ref (bd 14)])), ((bd 1), .inl (cy 0, 130, .inl (nIf f_))), ((bd 5), .inl (cy 0, 80, .inl (nIf pd_))), ((bd 7), .inl (cy 2, 16, .inl (nBf is_)))] := hD
    refine lv_aload_n hx hb dX8_place_35 rfl (lv_at hl 1 rfl) ?_
    refine lv_dup hx hb dX8_place_36 rfl ?_
    refine va_get (D := D) (ci := 5) (v := .int (nI at_)) (C := RX8) (T := TX8) (N := 19) hx hb hts (fun w h => List.mem_cons_of_mem _ (zinX8 w h)) hown hK.1 hP 0 rfl rfl 8 (by decide) (hts _ (List.mem_cons_of_mem _ zw_200)) (fun _ h9 => h9) rfl dX8_place_37 ?_
    refine lv_aload_n hx hb dX8_place_40 rfl (lv_at hl 1 rfl) ?_
    refine va_get (D := D) (ci := 5) (v := .int (nI 0)) (C := RX8) (T := TX8) (N := 19) hx hb hts (fun w h => List.mem_cons_of_mem _ (zinX8 w h)) hown hK.1 hP 0 rfl rfl 9 (by decide) (hts _ (List.mem_cons_of_mem _ zw_201)) (fun _ h9 => h9) rfl dX8_place_41 ?_
    refine zb0_eq (a := 0) (tgt := 51) hx hb dX8_place_44 (by decide) (by decide) (fun c44 => ?_) (fun hd_ => absurd hd_ (by decide))
    refine lv_iconst (v := nI 0) hx hb dX8_place_51 (by decide) ?_
    refine zi_add (v := nI at_) hx hb dX8_place_52 (nI_add _ _) ?_
    refine va_put (D := D) (ci := 5) (v := .int (nI at_)) (ty := .int) (C := RX8) (T := TX8) (N := 19) hx hb hts (fun w h => List.mem_cons_of_mem _ (zinX8 w h)) tyX8 tyX8_ok nmX8 hown hK.1 hP hD hS 0 rfl rfl 8 (by decide) (hts _ (List.mem_cons_of_mem _ zw_200)) (fun _ h9 => h9) rfl (tyX8_ok 8 (by decide)) rfl rfl (Nat.le_of_ble_eq_true rfl) dX8_place_53 (fun H locs hP hD hS => ?_)
    have hP : va_P D vwCl [((bd 0), .inr (5, [.int (nI 0), .ref (bd 1), .ref (bd 2), .int (nI um_), .ref (bd 3), .ref (bd 4), .ref (bd 5), .int (nI ln_), .int (nI at_), .int (nI 0), .ref (bd 6), .ref (bd 7), .ref (bd 8), .ref (bd 9), .ref (bd 10), .ref (bd 11), .ref (bd 12), .ref (bd 13), .ref (bd 14)])), ((bd 1), .inl (cy 0, 130, .inl (nIf f_))), ((bd 5), .inl (cy 0, 80, .inl (nIf pd_))), ((bd 7), .inl (cy 2, 16, .inl (nBf is_)))] H := hP
    have hD : va_D zA [((bd 0), .inr (5, [.int (nI 0), .ref (bd 1), .ref (bd 2), .int (nI um_), .ref (bd 3), .ref (bd 4), .ref (bd 5), .int (nI ln_), .int (nI at_), .int (nI 0), .ref (bd 6), .ref (bd 7), .ref (bd 8), .ref (bd 9), .ref (bd 10), .ref (bd 11), .ref (bd 12), .ref (bd 13), .ref (bd 14)])), ((bd 1), .inl (cy 0, 130, .inl (nIf f_))), ((bd 5), .inl (cy 0, 80, .inl (nIf pd_))), ((bd 7), .inl (cy 2, 16, .inl (nBf is_)))] := hD
    have hjl : at_ ≤ ln_ := hat
    refine lv_aload_n hx hb dX8_place_56 rfl (lv_at hl 1 rfl) ?_
    refine zcRi (As := []) (rest := []) ⟨hx, hb, hml, hown, hts⟩ (c_X8_letter l D cy bd um_ ln_ at_ false pd_ (by omega) hpd (by omega)) (cwV 0 hts (zG_V zw_202 zw_203 zw_204 zw_5 zw_205) rfl rfl rfl zd_X8_letter ⟨Nat.le_of_ble_eq_true rfl, Nat.le_of_ble_eq_true rfl⟩) hK hP [0, 2] rfl rfl rfl rfl rfl hl.1 rfl (Nat.le_of_ble_eq_true rfl) dX8_place_57 ⟨Nat.zero_le _, Nat.zero_le _⟩ (fun r57 h57 => ?_)
    subst h57
    have hL62 := ltr_lt hpd at_
    refine lv_bipush (v := nI 48) hx hb dX8_place_60 (by decide) ?_
    refine zi_sub (v := nI (ltr pd_ ln_ at_) - nI 48) hx hb dX8_place_62 rfl ?_
    refine lv_istore_n (lv' := [(2, .int (nI (ltr pd_ ln_ at_) - nI 48)), (1, .int (nI (ltr pd_ ln_ at_) - nI 48)), (0, .ref (bd 0))]) hx hb dX8_place_63 rfl hl (by decide) rfl (fun ls hl => ?_)
    have hL64 := ltr_lt hpd at_
    have hs64 : (nI (ltr pd_ ln_ at_) - nI 48).toInt = ((ltr pd_ ln_ at_ : Nat) : Int) - ((48 : Nat) : Int) := pk_sub_toInt (by omega) (by omega)
    refine lv_aload_n hx hb dX8_place_64 rfl (lv_at hl 2 rfl) ?_
    refine va_get (D := D) (ci := 5) (v := .int (nI 0)) (C := RX8) (T := TX8) (N := 19) hx hb hts (fun w h => List.mem_cons_of_mem _ (zinX8 w h)) hown hK.1 hP 0 rfl rfl 9 (by decide) (hts _ (List.mem_cons_of_mem _ zw_201)) (fun _ h9 => h9) rfl dX8_place_65 ?_
    refine zb0_eq (a := 0) (tgt := 112) hx hb dX8_place_68 (by decide) (by decide) (fun c68 => ?_) (fun hd_ => absurd hd_ (by decide))
    refine lv_aload_n hx hb dX8_place_112 rfl (lv_at hl 2 rfl) ?_
    refine lv_aload_n hx hb dX8_place_113 rfl (lv_at hl 2 rfl) ?_
    refine va_get (D := D) (ci := 5) (v := .int (nI 0)) (C := RX8) (T := TX8) (N := 19) hx hb hts (fun w h => List.mem_cons_of_mem _ (zinX8 w h)) hown hK.1 hP 0 rfl rfl 9 (by decide) (hts _ (List.mem_cons_of_mem _ zw_201)) (fun _ h9 => h9) rfl dX8_place_114 ?_
    refine zb0_eq (a := 0) (tgt := 150) hx hb dX8_place_117 (by decide) (by decide) (fun c117 => ?_) (fun hd_ => absurd hd_ (by decide))
    refine lv_iconst (v := nI 0) hx hb dX8_place_150 (by decide) ?_
    refine va_put (D := D) (ci := 5) (v := .int (nI 0)) (ty := .boolean) (C := RX8) (T := TX8) (N := 19) hx hb hts (fun w h => List.mem_cons_of_mem _ (zinX8 w h)) tyX8 tyX8_ok nmX8 hown hK.1 hP hD hS 0 rfl rfl 9 (by decide) (hts _ (List.mem_cons_of_mem _ zw_201)) (fun _ h9 => h9) rfl (tyX8_ok 9 (by decide)) rfl rfl (Nat.le_of_ble_eq_true rfl) dX8_place_151 (fun H locs hP hD hS => ?_)
    have hP : va_P D vwCl [((bd 0), .inr (5, [.int (nI 0), .ref (bd 1), .ref (bd 2), .int (nI um_), .ref (bd 3), .ref (bd 4), .ref (bd 5), .int (nI ln_), .int (nI at_), .int (nI 0), .ref (bd 6), .ref (bd 7), .ref (bd 8), .ref (bd 9), .ref (bd 10), .ref (bd 11), .ref (bd 12), .ref (bd 13), .ref (bd 14)])), ((bd 1), .inl (cy 0, 130, .inl (nIf f_))), ((bd 5), .inl (cy 0, 80, .inl (nIf pd_))), ((bd 7), .inl (cy 2, 16, .inl (nBf is_)))] H := hP
    have hD : va_D zA [((bd 0), .inr (5, [.int (nI 0), .ref (bd 1), .ref (bd 2), .int (nI um_), .ref (bd 3), .ref (bd 4), .ref (bd 5), .int (nI ln_), .int (nI at_), .int (nI 0), .ref (bd 6), .ref (bd 7), .ref (bd 8), .ref (bd 9), .ref (bd 10), .ref (bd 11), .ref (bd 12), .ref (bd 13), .ref (bd 14)])), ((bd 1), .inl (cy 0, 130, .inl (nIf f_))), ((bd 5), .inl (cy 0, 80, .inl (nIf pd_))), ((bd 7), .inl (cy 2, 16, .inl (nBf is_)))] := hD
    refine lv_aload_n hx hb dX8_place_154 rfl (lv_at hl 2 rfl) ?_
    refine va_get (D := D) (ci := 5) (v := .int (nI 0)) (C := RX8) (T := TX8) (N := 19) hx hb hts (fun w h => List.mem_cons_of_mem _ (zinX8 w h)) hown hK.1 hP 0 rfl rfl 9 (by decide) (hts _ (List.mem_cons_of_mem _ zw_201)) (fun _ h9 => h9) rfl dX8_place_155 ?_
    refine zb0_eq (a := 0) (tgt := 168) hx hb dX8_place_158 (by decide) (by decide) (fun c158 => ?_) (fun hd_ => absurd hd_ (by decide))
    refine lv_iload_n hx hb dX8_place_168 rfl (lv_at hl 1 rfl) ?_
    exact kr _ (at_, false, is_) _ _ _ _ dX8_place_169 (vp_nar_int _) (plR_no (j := at_) (by omega) (by omega) (pl_bad1 hat hAs hsy (fun q_ => c16 (by omega)))) hP hD hS
  · skip
    have e19 : nI (ltr pd_ ln_ at_) - nI 48 = nI (ltr pd_ ln_ at_ - 48) := pk_sub (by omega)
    rw [e19] at hl
    refine lv_aload_n hx hb dX8_place_19 rfl (lv_at hl 1 rfl) ?_
    refine lv_iload_n hx hb dX8_place_20 rfl (lv_at hl 0 rfl) ?_
    refine zcRi (As := [.int (nI (ltr pd_ ln_ at_ - 48))]) (rest := [.ref (bd 0)]) ⟨hx, hb, hml, hown, hts⟩ (c_X8_canBegin l D cy bd um_ ln_ at_ iw_ f_ is_ us_ (ltr pd_ ln_ at_ - 48) (by omega) his (by omega)) (cwV 1 hts (zG_V zw_214 zw_215 zw_216 zw_5 zw_217) rfl rfl rfl zd_X8_canBegin ⟨Nat.le_of_ble_eq_true rfl, Nat.le_of_ble_eq_true rfl⟩) hK hP [0, 1, 3] rfl rfl rfl rfl rfl hl.1 rfl (Nat.le_of_ble_eq_true rfl) dX8_place_21 ⟨Nat.zero_le _, Nat.zero_le _⟩ (fun r21 h21 => ?_)
    subst h21
    refine zq_eq (tgt := 31) hx hb dX8_place_24 (by decide) (fun c24 => ?_) (fun c24 => ?_)
    · skip
      refine lv_iconst (v := nI 0) hx hb dX8_place_31 (by decide) ?_
      refine va_put (D := D) (ci := 5) (v := .int (nI 0)) (ty := .boolean) (C := RX8) (T := TX8) (N := 19) hx hb hts (fun w h => List.mem_cons_of_mem _ (zinX8 w h)) tyX8 tyX8_ok nmX8 hown hK.1 hP hD hS 0 rfl rfl 9 (by decide) (hts _ (List.mem_cons_of_mem _ zw_201)) (fun _ h9 => h9) rfl (tyX8_ok 9 (by decide)) rfl rfl (Nat.le_of_ble_eq_true rfl) dX8_place_32 (fun H locs hP hD hS => ?_)
      have hP : va_P D vwCl [((bd 0), .inr (5, [.int (nI 0), .ref (bd 1), .ref (bd 2), .int (nI um_), .ref (bd 3), .ref (bd 4), .ref (bd 5), .int (nI ln_), .int (nI at_), .int (nI 0), .ref (bd 6), .ref (bd 7), .ref (bd 8), .ref (bd 9), .ref (bd 10), .ref (bd 11), .ref (bd 12), .ref (bd 13), .ref (bd 14)])), ((bd 1), .inl (cy 0, 130, .inl (nIf f_))), ((bd 5), .inl (cy 0, 80, .inl (nIf pd_))), ((bd 7), .inl (cy 2, 16, .inl (nBf is_)))] H := hP
      have hD : va_D zA [((bd 0), .inr (5, [.int (nI 0), .ref (bd 1), .ref (bd 2), .int (nI um_), .ref (bd 3), .ref (bd 4), .ref (bd 5), .int (nI ln_), .int (nI at_), .int (nI 0), .ref (bd 6), .ref (bd 7), .ref (bd 8), .ref (bd 9), .ref (bd 10), .ref (bd 11), .ref (bd 12), .ref (bd 13), .ref (bd 14)])), ((bd 1), .inl (cy 0, 130, .inl (nIf f_))), ((bd 5), .inl (cy 0, 80, .inl (nIf pd_))), ((bd 7), .inl (cy 2, 16, .inl (nBf is_)))] := hD
      refine lv_aload_n hx hb dX8_place_35 rfl (lv_at hl 1 rfl) ?_
      refine lv_dup hx hb dX8_place_36 rfl ?_
      refine va_get (D := D) (ci := 5) (v := .int (nI at_)) (C := RX8) (T := TX8) (N := 19) hx hb hts (fun w h => List.mem_cons_of_mem _ (zinX8 w h)) hown hK.1 hP 0 rfl rfl 8 (by decide) (hts _ (List.mem_cons_of_mem _ zw_200)) (fun _ h9 => h9) rfl dX8_place_37 ?_
      refine lv_aload_n hx hb dX8_place_40 rfl (lv_at hl 1 rfl) ?_
      refine va_get (D := D) (ci := 5) (v := .int (nI 0)) (C := RX8) (T := TX8) (N := 19) hx hb hts (fun w h => List.mem_cons_of_mem _ (zinX8 w h)) hown hK.1 hP 0 rfl rfl 9 (by decide) (hts _ (List.mem_cons_of_mem _ zw_201)) (fun _ h9 => h9) rfl dX8_place_41 ?_
      refine zb0_eq (a := 0) (tgt := 51) hx hb dX8_place_44 (by decide) (by decide) (fun c44 => ?_) (fun hd_ => absurd hd_ (by decide))
      refine lv_iconst (v := nI 0) hx hb dX8_place_51 (by decide) ?_
      refine zi_add (v := nI at_) hx hb dX8_place_52 (nI_add _ _) ?_
      refine va_put (D := D) (ci := 5) (v := .int (nI at_)) (ty := .int) (C := RX8) (T := TX8) (N := 19) hx hb hts (fun w h => List.mem_cons_of_mem _ (zinX8 w h)) tyX8 tyX8_ok nmX8 hown hK.1 hP hD hS 0 rfl rfl 8 (by decide) (hts _ (List.mem_cons_of_mem _ zw_200)) (fun _ h9 => h9) rfl (tyX8_ok 8 (by decide)) rfl rfl (Nat.le_of_ble_eq_true rfl) dX8_place_53 (fun H locs hP hD hS => ?_)
      have hP : va_P D vwCl [((bd 0), .inr (5, [.int (nI 0), .ref (bd 1), .ref (bd 2), .int (nI um_), .ref (bd 3), .ref (bd 4), .ref (bd 5), .int (nI ln_), .int (nI at_), .int (nI 0), .ref (bd 6), .ref (bd 7), .ref (bd 8), .ref (bd 9), .ref (bd 10), .ref (bd 11), .ref (bd 12), .ref (bd 13), .ref (bd 14)])), ((bd 1), .inl (cy 0, 130, .inl (nIf f_))), ((bd 5), .inl (cy 0, 80, .inl (nIf pd_))), ((bd 7), .inl (cy 2, 16, .inl (nBf is_)))] H := hP
      have hD : va_D zA [((bd 0), .inr (5, [.int (nI 0), .ref (bd 1), .ref (bd 2), .int (nI um_), .ref (bd 3), .ref (bd 4), .ref (bd 5), .int (nI ln_), .int (nI at_), .int (nI 0), .ref (bd 6), .ref (bd 7), .ref (bd 8), .ref (bd 9), .ref (bd 10), .ref (bd 11), .ref (bd 12), .ref (bd 13), .ref (bd 14)])), ((bd 1), .inl (cy 0, 130, .inl (nIf f_))), ((bd 5), .inl (cy 0, 80, .inl (nIf pd_))), ((bd 7), .inl (cy 2, 16, .inl (nBf is_)))] := hD
      have hjl : at_ ≤ ln_ := hat
      refine lv_aload_n hx hb dX8_place_56 rfl (lv_at hl 1 rfl) ?_
      refine zcRi (As := []) (rest := []) ⟨hx, hb, hml, hown, hts⟩ (c_X8_letter l D cy bd um_ ln_ at_ false pd_ (by omega) hpd (by omega)) (cwV 0 hts (zG_V zw_202 zw_203 zw_204 zw_5 zw_205) rfl rfl rfl zd_X8_letter ⟨Nat.le_of_ble_eq_true rfl, Nat.le_of_ble_eq_true rfl⟩) hK hP [0, 2] rfl rfl rfl rfl rfl hl.1 rfl (Nat.le_of_ble_eq_true rfl) dX8_place_57 ⟨Nat.zero_le _, Nat.zero_le _⟩ (fun r57 h57 => ?_)
      subst h57
      have hL62 := ltr_lt hpd at_
      refine lv_bipush (v := nI 48) hx hb dX8_place_60 (by decide) ?_
      refine zi_sub (v := nI (ltr pd_ ln_ at_) - nI 48) hx hb dX8_place_62 rfl ?_
      refine lv_istore_n (lv' := [(2, .int (nI (ltr pd_ ln_ at_) - nI 48)), (1, .int (nI (ltr pd_ ln_ at_ - 48))), (0, .ref (bd 0))]) hx hb dX8_place_63 rfl hl (by decide) rfl (fun ls hl => ?_)
      have hL64 := ltr_lt hpd at_
      have hs64 : (nI (ltr pd_ ln_ at_) - nI 48).toInt = ((ltr pd_ ln_ at_ : Nat) : Int) - ((48 : Nat) : Int) := pk_sub_toInt (by omega) (by omega)
      refine lv_aload_n hx hb dX8_place_64 rfl (lv_at hl 2 rfl) ?_
      refine va_get (D := D) (ci := 5) (v := .int (nI 0)) (C := RX8) (T := TX8) (N := 19) hx hb hts (fun w h => List.mem_cons_of_mem _ (zinX8 w h)) hown hK.1 hP 0 rfl rfl 9 (by decide) (hts _ (List.mem_cons_of_mem _ zw_201)) (fun _ h9 => h9) rfl dX8_place_65 ?_
      refine zb0_eq (a := 0) (tgt := 112) hx hb dX8_place_68 (by decide) (by decide) (fun c68 => ?_) (fun hd_ => absurd hd_ (by decide))
      refine lv_aload_n hx hb dX8_place_112 rfl (lv_at hl 2 rfl) ?_
      refine lv_aload_n hx hb dX8_place_113 rfl (lv_at hl 2 rfl) ?_
      refine va_get (D := D) (ci := 5) (v := .int (nI 0)) (C := RX8) (T := TX8) (N := 19) hx hb hts (fun w h => List.mem_cons_of_mem _ (zinX8 w h)) hown hK.1 hP 0 rfl rfl 9 (by decide) (hts _ (List.mem_cons_of_mem _ zw_201)) (fun _ h9 => h9) rfl dX8_place_114 ?_
      refine zb0_eq (a := 0) (tgt := 150) hx hb dX8_place_117 (by decide) (by decide) (fun c117 => ?_) (fun hd_ => absurd hd_ (by decide))
      refine lv_iconst (v := nI 0) hx hb dX8_place_150 (by decide) ?_
      refine va_put (D := D) (ci := 5) (v := .int (nI 0)) (ty := .boolean) (C := RX8) (T := TX8) (N := 19) hx hb hts (fun w h => List.mem_cons_of_mem _ (zinX8 w h)) tyX8 tyX8_ok nmX8 hown hK.1 hP hD hS 0 rfl rfl 9 (by decide) (hts _ (List.mem_cons_of_mem _ zw_201)) (fun _ h9 => h9) rfl (tyX8_ok 9 (by decide)) rfl rfl (Nat.le_of_ble_eq_true rfl) dX8_place_151 (fun H locs hP hD hS => ?_)
      have hP : va_P D vwCl [((bd 0), .inr (5, [.int (nI 0), .ref (bd 1), .ref (bd 2), .int (nI um_), .ref (bd 3), .ref (bd 4), .ref (bd 5), .int (nI ln_), .int (nI at_), .int (nI 0), .ref (bd 6), .ref (bd 7), .ref (bd 8), .ref (bd 9), .ref (bd 10), .ref (bd 11), .ref (bd 12), .ref (bd 13), .ref (bd 14)])), ((bd 1), .inl (cy 0, 130, .inl (nIf f_))), ((bd 5), .inl (cy 0, 80, .inl (nIf pd_))), ((bd 7), .inl (cy 2, 16, .inl (nBf is_)))] H := hP
      have hD : va_D zA [((bd 0), .inr (5, [.int (nI 0), .ref (bd 1), .ref (bd 2), .int (nI um_), .ref (bd 3), .ref (bd 4), .ref (bd 5), .int (nI ln_), .int (nI at_), .int (nI 0), .ref (bd 6), .ref (bd 7), .ref (bd 8), .ref (bd 9), .ref (bd 10), .ref (bd 11), .ref (bd 12), .ref (bd 13), .ref (bd 14)])), ((bd 1), .inl (cy 0, 130, .inl (nIf f_))), ((bd 5), .inl (cy 0, 80, .inl (nIf pd_))), ((bd 7), .inl (cy 2, 16, .inl (nBf is_)))] := hD
      refine lv_aload_n hx hb dX8_place_154 rfl (lv_at hl 2 rfl) ?_
      refine va_get (D := D) (ci := 5) (v := .int (nI 0)) (C := RX8) (T := TX8) (N := 19) hx hb hts (fun w h => List.mem_cons_of_mem _ (zinX8 w h)) hown hK.1 hP 0 rfl rfl 9 (by decide) (hts _ (List.mem_cons_of_mem _ zw_201)) (fun _ h9 => h9) rfl dX8_place_155 ?_
      refine zb0_eq (a := 0) (tgt := 168) hx hb dX8_place_158 (by decide) (by decide) (fun c158 => ?_) (fun hd_ => absurd hd_ (by decide))
      refine lv_iload_n hx hb dX8_place_168 rfl (lv_at hl 1 rfl) ?_
      exact kr _ (at_, false, is_) _ _ _ _ dX8_place_169 (vp_nar_int _) (plR_no (j := at_) (by omega) (by omega) (pl_bad1 hat hAs hsy (fun q_ => c24 q_.2.2))) hP hD hS
    · skip
      refine lv_iconst (v := nI 1) hx hb dX8_place_27 (by decide) ?_
      refine lv_goto (tgt := 32) hx hb dX8_place_28 (by decide) ?_
      refine va_put (D := D) (ci := 5) (v := .int (nI 1)) (ty := .boolean) (C := RX8) (T := TX8) (N := 19) hx hb hts (fun w h => List.mem_cons_of_mem _ (zinX8 w h)) tyX8 tyX8_ok nmX8 hown hK.1 hP hD hS 0 rfl rfl 9 (by decide) (hts _ (List.mem_cons_of_mem _ zw_201)) (fun _ h9 => h9) rfl (tyX8_ok 9 (by decide)) rfl rfl (Nat.le_of_ble_eq_true rfl) dX8_place_32 (fun H locs hP hD hS => ?_)
      have hP : va_P D vwCl [((bd 0), .inr (5, [.int (nI 0), .ref (bd 1), .ref (bd 2), .int (nI um_), .ref (bd 3), .ref (bd 4), .ref (bd 5), .int (nI ln_), .int (nI at_), .int (nI 1), .ref (bd 6), .ref (bd 7), .ref (bd 8), .ref (bd 9), .ref (bd 10), .ref (bd 11), .ref (bd 12), .ref (bd 13), .ref (bd 14)])), ((bd 1), .inl (cy 0, 130, .inl (nIf f_))), ((bd 5), .inl (cy 0, 80, .inl (nIf pd_))), ((bd 7), .inl (cy 2, 16, .inl (nBf is_)))] H := hP
      have hD : va_D zA [((bd 0), .inr (5, [.int (nI 0), .ref (bd 1), .ref (bd 2), .int (nI um_), .ref (bd 3), .ref (bd 4), .ref (bd 5), .int (nI ln_), .int (nI at_), .int (nI 1), .ref (bd 6), .ref (bd 7), .ref (bd 8), .ref (bd 9), .ref (bd 10), .ref (bd 11), .ref (bd 12), .ref (bd 13), .ref (bd 14)])), ((bd 1), .inl (cy 0, 130, .inl (nIf f_))), ((bd 5), .inl (cy 0, 80, .inl (nIf pd_))), ((bd 7), .inl (cy 2, 16, .inl (nBf is_)))] := hD
      refine lv_aload_n hx hb dX8_place_35 rfl (lv_at hl 1 rfl) ?_
      refine lv_dup hx hb dX8_place_36 rfl ?_
      refine va_get (D := D) (ci := 5) (v := .int (nI at_)) (C := RX8) (T := TX8) (N := 19) hx hb hts (fun w h => List.mem_cons_of_mem _ (zinX8 w h)) hown hK.1 hP 0 rfl rfl 8 (by decide) (hts _ (List.mem_cons_of_mem _ zw_200)) (fun _ h9 => h9) rfl dX8_place_37 ?_
      refine lv_aload_n hx hb dX8_place_40 rfl (lv_at hl 1 rfl) ?_
      refine va_get (D := D) (ci := 5) (v := .int (nI 1)) (C := RX8) (T := TX8) (N := 19) hx hb hts (fun w h => List.mem_cons_of_mem _ (zinX8 w h)) hown hK.1 hP 0 rfl rfl 9 (by decide) (hts _ (List.mem_cons_of_mem _ zw_201)) (fun _ h9 => h9) rfl dX8_place_41 ?_
      refine zb0_eq (a := 1) (tgt := 51) hx hb dX8_place_44 (by decide) (by decide) (fun hd_ => absurd hd_ (by decide)) (fun c44 => ?_)
      refine lv_iconst (v := nI 1) hx hb dX8_place_47 (by decide) ?_
      refine lv_goto (tgt := 52) hx hb dX8_place_48 (by decide) ?_
      refine zi_add (v := nI (at_ + 1)) hx hb dX8_place_52 (nI_add _ _) ?_
      refine va_put (D := D) (ci := 5) (v := .int (nI (at_ + 1))) (ty := .int) (C := RX8) (T := TX8) (N := 19) hx hb hts (fun w h => List.mem_cons_of_mem _ (zinX8 w h)) tyX8 tyX8_ok nmX8 hown hK.1 hP hD hS 0 rfl rfl 8 (by decide) (hts _ (List.mem_cons_of_mem _ zw_200)) (fun _ h9 => h9) rfl (tyX8_ok 8 (by decide)) rfl rfl (Nat.le_of_ble_eq_true rfl) dX8_place_53 (fun H locs hP hD hS => ?_)
      have hP : va_P D vwCl [((bd 0), .inr (5, [.int (nI 0), .ref (bd 1), .ref (bd 2), .int (nI um_), .ref (bd 3), .ref (bd 4), .ref (bd 5), .int (nI ln_), .int (nI (at_ + 1)), .int (nI 1), .ref (bd 6), .ref (bd 7), .ref (bd 8), .ref (bd 9), .ref (bd 10), .ref (bd 11), .ref (bd 12), .ref (bd 13), .ref (bd 14)])), ((bd 1), .inl (cy 0, 130, .inl (nIf f_))), ((bd 5), .inl (cy 0, 80, .inl (nIf pd_))), ((bd 7), .inl (cy 2, 16, .inl (nBf is_)))] H := hP
      have hD : va_D zA [((bd 0), .inr (5, [.int (nI 0), .ref (bd 1), .ref (bd 2), .int (nI um_), .ref (bd 3), .ref (bd 4), .ref (bd 5), .int (nI ln_), .int (nI (at_ + 1)), .int (nI 1), .ref (bd 6), .ref (bd 7), .ref (bd 8), .ref (bd 9), .ref (bd 10), .ref (bd 11), .ref (bd 12), .ref (bd 13), .ref (bd 14)])), ((bd 1), .inl (cy 0, 130, .inl (nIf f_))), ((bd 5), .inl (cy 0, 80, .inl (nIf pd_))), ((bd 7), .inl (cy 2, 16, .inl (nBf is_)))] := hD
      obtain ⟨hk1, hsy1, hA1⟩ := pl_one hAs hsy ⟨by omega, by omega, c24⟩
      refine lv_aload_n hx hb dX8_place_56 rfl (lv_at hl 1 rfl) ?_
      refine zcRi (As := []) (rest := []) ⟨hx, hb, hml, hown, hts⟩ (c_X8_letter l D cy bd um_ ln_ (at_ + 1) true pd_ (by omega) hpd (by omega)) (cwV 0 hts (zG_V zw_202 zw_203 zw_204 zw_5 zw_205) rfl rfl rfl zd_X8_letter ⟨Nat.le_of_ble_eq_true rfl, Nat.le_of_ble_eq_true rfl⟩) hK hP [0, 2] rfl rfl rfl rfl rfl hl.1 rfl (Nat.le_of_ble_eq_true rfl) dX8_place_57 ⟨Nat.zero_le _, Nat.zero_le _⟩ (fun r57 h57 => ?_)
      subst h57
      have hL62 := ltr_lt hpd (at_ + 1)
      refine lv_bipush (v := nI 48) hx hb dX8_place_60 (by decide) ?_
      refine zi_sub (v := nI (ltr pd_ ln_ (at_ + 1)) - nI 48) hx hb dX8_place_62 rfl ?_
      refine lv_istore_n (lv' := [(2, .int (nI (ltr pd_ ln_ (at_ + 1)) - nI 48)), (1, .int (nI (ltr pd_ ln_ at_ - 48))), (0, .ref (bd 0))]) hx hb dX8_place_63 rfl hl (by decide) rfl (fun ls hl => ?_)
      have hL64 := ltr_lt hpd (at_ + 1)
      have hs64 : (nI (ltr pd_ ln_ (at_ + 1)) - nI 48).toInt = ((ltr pd_ ln_ (at_ + 1) : Nat) : Int) - ((48 : Nat) : Int) := pk_sub_toInt (by omega) (by omega)
      refine lv_aload_n hx hb dX8_place_64 rfl (lv_at hl 2 rfl) ?_
      refine va_get (D := D) (ci := 5) (v := .int (nI 1)) (C := RX8) (T := TX8) (N := 19) hx hb hts (fun w h => List.mem_cons_of_mem _ (zinX8 w h)) hown hK.1 hP 0 rfl rfl 9 (by decide) (hts _ (List.mem_cons_of_mem _ zw_201)) (fun _ h9 => h9) rfl dX8_place_65 ?_
      refine zb0_eq (a := 1) (tgt := 112) hx hb dX8_place_68 (by decide) (by decide) (fun hd_ => absurd hd_ (by decide)) (fun c68 => ?_)
      refine lv_iload_n hx hb dX8_place_71 rfl (lv_at hl 0 rfl) ?_
      refine lv_iconst (v := nI 0) hx hb dX8_place_72 (by decide) ?_
      refine lv_bipush (v := nI 9) hx hb dX8_place_73 (by decide) ?_
      refine zcSi (As := [.int (nI (ltr pd_ ln_ (at_ + 1)) - nI 48), .int (nI 0), .int (nI 9)]) (rest := []) ⟨hx, hb, hml, hown, hts⟩ (c_X8_in l D cy (nI (ltr pd_ ln_ (at_ + 1)) - nI 48) (nI 0) (nI 9)) (va_cwS 3 hts (zG_S zw_121 zw_122 zw_5 zw_123) rfl rfl rfl zd_X8_in ⟨Nat.le_of_ble_eq_true rfl, Nat.le_of_ble_eq_true rfl⟩) hK hP [] rfl rfl hl.1 rfl (Nat.le_of_ble_eq_true rfl) dX8_place_75 ⟨Nat.zero_le _, Nat.zero_le _⟩ (fun r75 h75 => ?_)
      subst h75
      refine zq_eq (tgt := 112) hx hb dX8_place_78 (by decide) (fun c78 => ?_) (fun c78 => ?_)
      · skip
        have hsyJ := hsy1
        have hAJ := hA1
        have hJ2 : 10 ≤ ltr pd_ ln_ at_ - 48 ∨ ¬ (48 ≤ ltr pd_ ln_ (at_ + 1) ∧ ltr pd_ ln_ (at_ + 1) ≤ 57 ∧ ltr pd_ ln_ at_ - 48 = 1 ∧ frE (f_ 0) us_ (10 + (ltr pd_ ln_ (at_ + 1) - 48)) = true) := Or.inr (fun q_ => c78 (by omega))
        have hjl : at_ + 1 ≤ ln_ := by omega
        have hLJ := ltr_lt hpd (at_ + 1)
        refine lv_aload_n hx hb dX8_place_112 rfl (lv_at hl 2 rfl) ?_
        refine lv_aload_n hx hb dX8_place_113 rfl (lv_at hl 2 rfl) ?_
        refine va_get (D := D) (ci := 5) (v := .int (nI 1)) (C := RX8) (T := TX8) (N := 19) hx hb hts (fun w h => List.mem_cons_of_mem _ (zinX8 w h)) hown hK.1 hP 0 rfl rfl 9 (by decide) (hts _ (List.mem_cons_of_mem _ zw_201)) (fun _ h9 => h9) rfl dX8_place_114 ?_
        refine zb0_eq (a := 1) (tgt := 150) hx hb dX8_place_117 (by decide) (by decide) (fun hd_ => absurd hd_ (by decide)) (fun c117 => ?_)
        refine lv_aload_n hx hb dX8_place_120 rfl (lv_at hl 2 rfl) ?_
        refine lv_iload_n hx hb dX8_place_121 rfl (lv_at hl 1 rfl) ?_
        refine zcRi (As := [.int (nI (ltr pd_ ln_ at_ - 48))]) (rest := [.ref (bd 0)]) ⟨hx, hb, hml, hown, hts⟩ (c_X8_isLeft l D cy bd um_ ln_ (at_ + 1) true f_ is_ us_ (ltr pd_ ln_ at_ - 48) (by omega) his (by omega)) (cwV 1 hts (zG_V zw_218 zw_219 zw_220 zw_5 zw_221) rfl rfl rfl zd_X8_isLeft ⟨Nat.le_of_ble_eq_true rfl, Nat.le_of_ble_eq_true rfl⟩) hK hP [0, 1, 3] rfl rfl rfl rfl rfl hl.1 rfl (Nat.le_of_ble_eq_true rfl) dX8_place_122 ⟨Nat.zero_le _, Nat.zero_le _⟩ (fun r122 h122 => ?_)
        subst h122
        refine zq_eq (tgt := 150) hx hb dX8_place_125 (by decide) (fun c125 => ?_) (fun c125 => ?_)
        · skip
          refine lv_iconst (v := nI 0) hx hb dX8_place_150 (by decide) ?_
          refine va_put (D := D) (ci := 5) (v := .int (nI 0)) (ty := .boolean) (C := RX8) (T := TX8) (N := 19) hx hb hts (fun w h => List.mem_cons_of_mem _ (zinX8 w h)) tyX8 tyX8_ok nmX8 hown hK.1 hP hD hS 0 rfl rfl 9 (by decide) (hts _ (List.mem_cons_of_mem _ zw_201)) (fun _ h9 => h9) rfl (tyX8_ok 9 (by decide)) rfl rfl (Nat.le_of_ble_eq_true rfl) dX8_place_151 (fun H locs hP hD hS => ?_)
          have hP : va_P D vwCl [((bd 0), .inr (5, [.int (nI 0), .ref (bd 1), .ref (bd 2), .int (nI um_), .ref (bd 3), .ref (bd 4), .ref (bd 5), .int (nI ln_), .int (nI (at_ + 1)), .int (nI 0), .ref (bd 6), .ref (bd 7), .ref (bd 8), .ref (bd 9), .ref (bd 10), .ref (bd 11), .ref (bd 12), .ref (bd 13), .ref (bd 14)])), ((bd 1), .inl (cy 0, 130, .inl (nIf f_))), ((bd 5), .inl (cy 0, 80, .inl (nIf pd_))), ((bd 7), .inl (cy 2, 16, .inl (nBf is_)))] H := hP
          have hD : va_D zA [((bd 0), .inr (5, [.int (nI 0), .ref (bd 1), .ref (bd 2), .int (nI um_), .ref (bd 3), .ref (bd 4), .ref (bd 5), .int (nI ln_), .int (nI (at_ + 1)), .int (nI 0), .ref (bd 6), .ref (bd 7), .ref (bd 8), .ref (bd 9), .ref (bd 10), .ref (bd 11), .ref (bd 12), .ref (bd 13), .ref (bd 14)])), ((bd 1), .inl (cy 0, 130, .inl (nIf f_))), ((bd 5), .inl (cy 0, 80, .inl (nIf pd_))), ((bd 7), .inl (cy 2, 16, .inl (nBf is_)))] := hD
          refine lv_aload_n hx hb dX8_place_154 rfl (lv_at hl 2 rfl) ?_
          refine va_get (D := D) (ci := 5) (v := .int (nI 0)) (C := RX8) (T := TX8) (N := 19) hx hb hts (fun w h => List.mem_cons_of_mem _ (zinX8 w h)) hown hK.1 hP 0 rfl rfl 9 (by decide) (hts _ (List.mem_cons_of_mem _ zw_201)) (fun _ h9 => h9) rfl dX8_place_155 ?_
          refine zb0_eq (a := 0) (tgt := 168) hx hb dX8_place_158 (by decide) (by decide) (fun c158 => ?_) (fun hd_ => absurd hd_ (by decide))
          refine lv_iload_n hx hb dX8_place_168 rfl (lv_at hl 1 rfl) ?_
          exact kr _ (at_ + 1, false, is_) _ _ _ _ dX8_place_169 (vp_nar_int _) (plR_no (j := (at_ + 1)) (by omega) (by omega) (pl_bad2 hN_ hjl hAJ hsyJ hJ2 (fun q_ => c125 q_.1))) hP hD hS
        · skip
          refine lv_aload_n hx hb dX8_place_128 rfl (lv_at hl 2 rfl) ?_
          refine zcRi (As := []) (rest := [.ref (bd 0)]) ⟨hx, hb, hml, hown, hts⟩ (c_X8_letter l D cy bd um_ ln_ (at_ + 1) true pd_ (by omega) hpd (by omega)) (cwV 0 hts (zG_V zw_202 zw_203 zw_204 zw_5 zw_205) rfl rfl rfl zd_X8_letter ⟨Nat.le_of_ble_eq_true rfl, Nat.le_of_ble_eq_true rfl⟩) hK hP [0, 2] rfl rfl rfl rfl rfl hl.1 rfl (Nat.le_of_ble_eq_true rfl) dX8_place_129 ⟨Nat.zero_le _, Nat.zero_le _⟩ (fun r129 h129 => ?_)
          subst h129
          refine lv_bipush (v := nI 44) hx hb dX8_place_132 (by decide) ?_
          refine zb_eq (a := ltr pd_ ln_ (at_ + 1)) (b := 44) (tgt := 146) hx hb dX8_place_134 (by decide) (by omega) (by omega) (fun c134 => ?_) (fun c134 => ?_)
          · skip
            refine lv_iconst (v := nI 1) hx hb dX8_place_146 (by decide) ?_
            refine lv_goto (tgt := 151) hx hb dX8_place_147 (by decide) ?_
            refine va_put (D := D) (ci := 5) (v := .int (nI 1)) (ty := .boolean) (C := RX8) (T := TX8) (N := 19) hx hb hts (fun w h => List.mem_cons_of_mem _ (zinX8 w h)) tyX8 tyX8_ok nmX8 hown hK.1 hP hD hS 0 rfl rfl 9 (by decide) (hts _ (List.mem_cons_of_mem _ zw_201)) (fun _ h9 => h9) rfl (tyX8_ok 9 (by decide)) rfl rfl (Nat.le_of_ble_eq_true rfl) dX8_place_151 (fun H locs hP hD hS => ?_)
            have hP : va_P D vwCl [((bd 0), .inr (5, [.int (nI 0), .ref (bd 1), .ref (bd 2), .int (nI um_), .ref (bd 3), .ref (bd 4), .ref (bd 5), .int (nI ln_), .int (nI (at_ + 1)), .int (nI 1), .ref (bd 6), .ref (bd 7), .ref (bd 8), .ref (bd 9), .ref (bd 10), .ref (bd 11), .ref (bd 12), .ref (bd 13), .ref (bd 14)])), ((bd 1), .inl (cy 0, 130, .inl (nIf f_))), ((bd 5), .inl (cy 0, 80, .inl (nIf pd_))), ((bd 7), .inl (cy 2, 16, .inl (nBf is_)))] H := hP
            have hD : va_D zA [((bd 0), .inr (5, [.int (nI 0), .ref (bd 1), .ref (bd 2), .int (nI um_), .ref (bd 3), .ref (bd 4), .ref (bd 5), .int (nI ln_), .int (nI (at_ + 1)), .int (nI 1), .ref (bd 6), .ref (bd 7), .ref (bd 8), .ref (bd 9), .ref (bd 10), .ref (bd 11), .ref (bd 12), .ref (bd 13), .ref (bd 14)])), ((bd 1), .inl (cy 0, 130, .inl (nIf f_))), ((bd 5), .inl (cy 0, 80, .inl (nIf pd_))), ((bd 7), .inl (cy 2, 16, .inl (nBf is_)))] := hD
            refine lv_aload_n hx hb dX8_place_154 rfl (lv_at hl 2 rfl) ?_
            refine va_get (D := D) (ci := 5) (v := .int (nI 1)) (C := RX8) (T := TX8) (N := 19) hx hb hts (fun w h => List.mem_cons_of_mem _ (zinX8 w h)) hown hK.1 hP 0 rfl rfl 9 (by decide) (hts _ (List.mem_cons_of_mem _ zw_201)) (fun _ h9 => h9) rfl dX8_place_155 ?_
            refine zb0_eq (a := 1) (tgt := 168) hx hb dX8_place_158 (by decide) (by decide) (fun hd_ => absurd hd_ (by decide)) (fun c158 => ?_)
            have hf161 := frE_lt c125
            refine lv_aload_n hx hb dX8_place_161 rfl (lv_at hl 2 rfl) ?_
            refine va_get (D := D) (ci := 5) (v := .ref (bd 7)) (C := RX8) (T := TX8) (N := 19) hx hb hts (fun w h => List.mem_cons_of_mem _ (zinX8 w h)) hown hK.1 hP 0 rfl rfl 11 (by decide) (hts _ (List.mem_cons_of_mem _ zw_80)) (fun _ h9 => h9) rfl dX8_place_162 ?_
            refine lv_iload_n hx hb dX8_place_165 rfl (lv_at hl 1 rfl) ?_
            refine lv_iconst (v := nI 1) hx hb dX8_place_166 (by decide) ?_
            refine zi_zast hx hb hK hP hD hS 3 rfl (by omega) (by omega) rfl dX8_place_167 (fun H locs hP hD hS => ?_)
            rw [upd_nB1] at hP hD
            have hP : va_P D vwCl [((bd 0), .inr (5, [.int (nI 0), .ref (bd 1), .ref (bd 2), .int (nI um_), .ref (bd 3), .ref (bd 4), .ref (bd 5), .int (nI ln_), .int (nI (at_ + 1)), .int (nI 1), .ref (bd 6), .ref (bd 7), .ref (bd 8), .ref (bd 9), .ref (bd 10), .ref (bd 11), .ref (bd 12), .ref (bd 13), .ref (bd 14)])), ((bd 1), .inl (cy 0, 130, .inl (nIf f_))), ((bd 5), .inl (cy 0, 80, .inl (nIf pd_))), ((bd 7), .inl (cy 2, 16, .inl (nBf (uB1 is_ (ltr pd_ ln_ at_ - 48) true))))] H := hP
            have hD : va_D zA [((bd 0), .inr (5, [.int (nI 0), .ref (bd 1), .ref (bd 2), .int (nI um_), .ref (bd 3), .ref (bd 4), .ref (bd 5), .int (nI ln_), .int (nI (at_ + 1)), .int (nI 1), .ref (bd 6), .ref (bd 7), .ref (bd 8), .ref (bd 9), .ref (bd 10), .ref (bd 11), .ref (bd 12), .ref (bd 13), .ref (bd 14)])), ((bd 1), .inl (cy 0, 130, .inl (nIf f_))), ((bd 5), .inl (cy 0, 80, .inl (nIf pd_))), ((bd 7), .inl (cy 2, 16, .inl (nBf (uB1 is_ (ltr pd_ ln_ at_ - 48) true))))] := hD
            refine lv_iload_n hx hb dX8_place_168 rfl (lv_at hl 1 rfl) ?_
            exact kr _ (at_ + 1, true, (uB1 is_ (ltr pd_ ln_ at_ - 48) true)) _ _ _ _ dX8_place_169 (vp_nar_int _) (plR_yes (j := (at_ + 1)) (by omega) hsyJ hAJ c125 (Or.inl c134)) hP hD hS
          · skip
            refine lv_aload_n hx hb dX8_place_137 rfl (lv_at hl 2 rfl) ?_
            refine zcRi (As := []) (rest := [.ref (bd 0)]) ⟨hx, hb, hml, hown, hts⟩ (c_X8_letter l D cy bd um_ ln_ (at_ + 1) true pd_ (by omega) hpd (by omega)) (cwV 0 hts (zG_V zw_202 zw_203 zw_204 zw_5 zw_205) rfl rfl rfl zd_X8_letter ⟨Nat.le_of_ble_eq_true rfl, Nat.le_of_ble_eq_true rfl⟩) hK hP [0, 2] rfl rfl rfl rfl rfl hl.1 rfl (Nat.le_of_ble_eq_true rfl) dX8_place_138 ⟨Nat.zero_le _, Nat.zero_le _⟩ (fun r138 h138 => ?_)
            subst h138
            refine lv_bipush (v := nI 41) hx hb dX8_place_141 (by decide) ?_
            refine zb_ne (a := ltr pd_ ln_ (at_ + 1)) (b := 41) (tgt := 150) hx hb dX8_place_143 (by decide) (by omega) (by omega) (fun c143 => ?_) (fun c143 => ?_)
            · skip
              refine lv_iconst (v := nI 0) hx hb dX8_place_150 (by decide) ?_
              refine va_put (D := D) (ci := 5) (v := .int (nI 0)) (ty := .boolean) (C := RX8) (T := TX8) (N := 19) hx hb hts (fun w h => List.mem_cons_of_mem _ (zinX8 w h)) tyX8 tyX8_ok nmX8 hown hK.1 hP hD hS 0 rfl rfl 9 (by decide) (hts _ (List.mem_cons_of_mem _ zw_201)) (fun _ h9 => h9) rfl (tyX8_ok 9 (by decide)) rfl rfl (Nat.le_of_ble_eq_true rfl) dX8_place_151 (fun H locs hP hD hS => ?_)
              have hP : va_P D vwCl [((bd 0), .inr (5, [.int (nI 0), .ref (bd 1), .ref (bd 2), .int (nI um_), .ref (bd 3), .ref (bd 4), .ref (bd 5), .int (nI ln_), .int (nI (at_ + 1)), .int (nI 0), .ref (bd 6), .ref (bd 7), .ref (bd 8), .ref (bd 9), .ref (bd 10), .ref (bd 11), .ref (bd 12), .ref (bd 13), .ref (bd 14)])), ((bd 1), .inl (cy 0, 130, .inl (nIf f_))), ((bd 5), .inl (cy 0, 80, .inl (nIf pd_))), ((bd 7), .inl (cy 2, 16, .inl (nBf is_)))] H := hP
              have hD : va_D zA [((bd 0), .inr (5, [.int (nI 0), .ref (bd 1), .ref (bd 2), .int (nI um_), .ref (bd 3), .ref (bd 4), .ref (bd 5), .int (nI ln_), .int (nI (at_ + 1)), .int (nI 0), .ref (bd 6), .ref (bd 7), .ref (bd 8), .ref (bd 9), .ref (bd 10), .ref (bd 11), .ref (bd 12), .ref (bd 13), .ref (bd 14)])), ((bd 1), .inl (cy 0, 130, .inl (nIf f_))), ((bd 5), .inl (cy 0, 80, .inl (nIf pd_))), ((bd 7), .inl (cy 2, 16, .inl (nBf is_)))] := hD
              refine lv_aload_n hx hb dX8_place_154 rfl (lv_at hl 2 rfl) ?_
              refine va_get (D := D) (ci := 5) (v := .int (nI 0)) (C := RX8) (T := TX8) (N := 19) hx hb hts (fun w h => List.mem_cons_of_mem _ (zinX8 w h)) hown hK.1 hP 0 rfl rfl 9 (by decide) (hts _ (List.mem_cons_of_mem _ zw_201)) (fun _ h9 => h9) rfl dX8_place_155 ?_
              refine zb0_eq (a := 0) (tgt := 168) hx hb dX8_place_158 (by decide) (by decide) (fun c158 => ?_) (fun hd_ => absurd hd_ (by decide))
              refine lv_iload_n hx hb dX8_place_168 rfl (lv_at hl 1 rfl) ?_
              exact kr _ (at_ + 1, false, is_) _ _ _ _ dX8_place_169 (vp_nar_int _) (plR_no (j := (at_ + 1)) (by omega) (by omega) (pl_bad2 hN_ hjl hAJ hsyJ hJ2 (fun q_ => q_.2.elim c134 c143))) hP hD hS
            · skip
              refine lv_iconst (v := nI 1) hx hb dX8_place_146 (by decide) ?_
              refine lv_goto (tgt := 151) hx hb dX8_place_147 (by decide) ?_
              refine va_put (D := D) (ci := 5) (v := .int (nI 1)) (ty := .boolean) (C := RX8) (T := TX8) (N := 19) hx hb hts (fun w h => List.mem_cons_of_mem _ (zinX8 w h)) tyX8 tyX8_ok nmX8 hown hK.1 hP hD hS 0 rfl rfl 9 (by decide) (hts _ (List.mem_cons_of_mem _ zw_201)) (fun _ h9 => h9) rfl (tyX8_ok 9 (by decide)) rfl rfl (Nat.le_of_ble_eq_true rfl) dX8_place_151 (fun H locs hP hD hS => ?_)
              have hP : va_P D vwCl [((bd 0), .inr (5, [.int (nI 0), .ref (bd 1), .ref (bd 2), .int (nI um_), .ref (bd 3), .ref (bd 4), .ref (bd 5), .int (nI ln_), .int (nI (at_ + 1)), .int (nI 1), .ref (bd 6), .ref (bd 7), .ref (bd 8), .ref (bd 9), .ref (bd 10), .ref (bd 11), .ref (bd 12), .ref (bd 13), .ref (bd 14)])), ((bd 1), .inl (cy 0, 130, .inl (nIf f_))), ((bd 5), .inl (cy 0, 80, .inl (nIf pd_))), ((bd 7), .inl (cy 2, 16, .inl (nBf is_)))] H := hP
              have hD : va_D zA [((bd 0), .inr (5, [.int (nI 0), .ref (bd 1), .ref (bd 2), .int (nI um_), .ref (bd 3), .ref (bd 4), .ref (bd 5), .int (nI ln_), .int (nI (at_ + 1)), .int (nI 1), .ref (bd 6), .ref (bd 7), .ref (bd 8), .ref (bd 9), .ref (bd 10), .ref (bd 11), .ref (bd 12), .ref (bd 13), .ref (bd 14)])), ((bd 1), .inl (cy 0, 130, .inl (nIf f_))), ((bd 5), .inl (cy 0, 80, .inl (nIf pd_))), ((bd 7), .inl (cy 2, 16, .inl (nBf is_)))] := hD
              refine lv_aload_n hx hb dX8_place_154 rfl (lv_at hl 2 rfl) ?_
              refine va_get (D := D) (ci := 5) (v := .int (nI 1)) (C := RX8) (T := TX8) (N := 19) hx hb hts (fun w h => List.mem_cons_of_mem _ (zinX8 w h)) hown hK.1 hP 0 rfl rfl 9 (by decide) (hts _ (List.mem_cons_of_mem _ zw_201)) (fun _ h9 => h9) rfl dX8_place_155 ?_
              refine zb0_eq (a := 1) (tgt := 168) hx hb dX8_place_158 (by decide) (by decide) (fun hd_ => absurd hd_ (by decide)) (fun c158 => ?_)
              have hf161 := frE_lt c125
              refine lv_aload_n hx hb dX8_place_161 rfl (lv_at hl 2 rfl) ?_
              refine va_get (D := D) (ci := 5) (v := .ref (bd 7)) (C := RX8) (T := TX8) (N := 19) hx hb hts (fun w h => List.mem_cons_of_mem _ (zinX8 w h)) hown hK.1 hP 0 rfl rfl 11 (by decide) (hts _ (List.mem_cons_of_mem _ zw_80)) (fun _ h9 => h9) rfl dX8_place_162 ?_
              refine lv_iload_n hx hb dX8_place_165 rfl (lv_at hl 1 rfl) ?_
              refine lv_iconst (v := nI 1) hx hb dX8_place_166 (by decide) ?_
              refine zi_zast hx hb hK hP hD hS 3 rfl (by omega) (by omega) rfl dX8_place_167 (fun H locs hP hD hS => ?_)
              rw [upd_nB1] at hP hD
              have hP : va_P D vwCl [((bd 0), .inr (5, [.int (nI 0), .ref (bd 1), .ref (bd 2), .int (nI um_), .ref (bd 3), .ref (bd 4), .ref (bd 5), .int (nI ln_), .int (nI (at_ + 1)), .int (nI 1), .ref (bd 6), .ref (bd 7), .ref (bd 8), .ref (bd 9), .ref (bd 10), .ref (bd 11), .ref (bd 12), .ref (bd 13), .ref (bd 14)])), ((bd 1), .inl (cy 0, 130, .inl (nIf f_))), ((bd 5), .inl (cy 0, 80, .inl (nIf pd_))), ((bd 7), .inl (cy 2, 16, .inl (nBf (uB1 is_ (ltr pd_ ln_ at_ - 48) true))))] H := hP
              have hD : va_D zA [((bd 0), .inr (5, [.int (nI 0), .ref (bd 1), .ref (bd 2), .int (nI um_), .ref (bd 3), .ref (bd 4), .ref (bd 5), .int (nI ln_), .int (nI (at_ + 1)), .int (nI 1), .ref (bd 6), .ref (bd 7), .ref (bd 8), .ref (bd 9), .ref (bd 10), .ref (bd 11), .ref (bd 12), .ref (bd 13), .ref (bd 14)])), ((bd 1), .inl (cy 0, 130, .inl (nIf f_))), ((bd 5), .inl (cy 0, 80, .inl (nIf pd_))), ((bd 7), .inl (cy 2, 16, .inl (nBf (uB1 is_ (ltr pd_ ln_ at_ - 48) true))))] := hD
              refine lv_iload_n hx hb dX8_place_168 rfl (lv_at hl 1 rfl) ?_
              exact kr _ (at_ + 1, true, (uB1 is_ (ltr pd_ ln_ at_ - 48) true)) _ _ _ _ dX8_place_169 (vp_nar_int _) (plR_yes (j := (at_ + 1)) (by omega) hsyJ hAJ c125 (Or.inr c143)) hP hD hS
      · skip
        refine lv_iload_n hx hb dX8_place_81 rfl (lv_at hl 1 rfl) ?_
        refine lv_iconst (v := nI 1) hx hb dX8_place_82 (by decide) ?_
        refine zb_ne (a := ltr pd_ ln_ at_ - 48) (b := 1) (tgt := 112) hx hb dX8_place_83 (by decide) (by omega) (by omega) (fun c83 => ?_) (fun c83 => ?_)
        · skip
          have hsyJ := hsy1
          have hAJ := hA1
          have hJ2 : 10 ≤ ltr pd_ ln_ at_ - 48 ∨ ¬ (48 ≤ ltr pd_ ln_ (at_ + 1) ∧ ltr pd_ ln_ (at_ + 1) ≤ 57 ∧ ltr pd_ ln_ at_ - 48 = 1 ∧ frE (f_ 0) us_ (10 + (ltr pd_ ln_ (at_ + 1) - 48)) = true) := Or.inr (fun q_ => c83 q_.2.2.1)
          have hjl : at_ + 1 ≤ ln_ := by omega
          have hLJ := ltr_lt hpd (at_ + 1)
          refine lv_aload_n hx hb dX8_place_112 rfl (lv_at hl 2 rfl) ?_
          refine lv_aload_n hx hb dX8_place_113 rfl (lv_at hl 2 rfl) ?_
          refine va_get (D := D) (ci := 5) (v := .int (nI 1)) (C := RX8) (T := TX8) (N := 19) hx hb hts (fun w h => List.mem_cons_of_mem _ (zinX8 w h)) hown hK.1 hP 0 rfl rfl 9 (by decide) (hts _ (List.mem_cons_of_mem _ zw_201)) (fun _ h9 => h9) rfl dX8_place_114 ?_
          refine zb0_eq (a := 1) (tgt := 150) hx hb dX8_place_117 (by decide) (by decide) (fun hd_ => absurd hd_ (by decide)) (fun c117 => ?_)
          refine lv_aload_n hx hb dX8_place_120 rfl (lv_at hl 2 rfl) ?_
          refine lv_iload_n hx hb dX8_place_121 rfl (lv_at hl 1 rfl) ?_
          refine zcRi (As := [.int (nI (ltr pd_ ln_ at_ - 48))]) (rest := [.ref (bd 0)]) ⟨hx, hb, hml, hown, hts⟩ (c_X8_isLeft l D cy bd um_ ln_ (at_ + 1) true f_ is_ us_ (ltr pd_ ln_ at_ - 48) (by omega) his (by omega)) (cwV 1 hts (zG_V zw_218 zw_219 zw_220 zw_5 zw_221) rfl rfl rfl zd_X8_isLeft ⟨Nat.le_of_ble_eq_true rfl, Nat.le_of_ble_eq_true rfl⟩) hK hP [0, 1, 3] rfl rfl rfl rfl rfl hl.1 rfl (Nat.le_of_ble_eq_true rfl) dX8_place_122 ⟨Nat.zero_le _, Nat.zero_le _⟩ (fun r122 h122 => ?_)
          subst h122
          refine zq_eq (tgt := 150) hx hb dX8_place_125 (by decide) (fun c125 => ?_) (fun c125 => ?_)
          · skip
            refine lv_iconst (v := nI 0) hx hb dX8_place_150 (by decide) ?_
            refine va_put (D := D) (ci := 5) (v := .int (nI 0)) (ty := .boolean) (C := RX8) (T := TX8) (N := 19) hx hb hts (fun w h => List.mem_cons_of_mem _ (zinX8 w h)) tyX8 tyX8_ok nmX8 hown hK.1 hP hD hS 0 rfl rfl 9 (by decide) (hts _ (List.mem_cons_of_mem _ zw_201)) (fun _ h9 => h9) rfl (tyX8_ok 9 (by decide)) rfl rfl (Nat.le_of_ble_eq_true rfl) dX8_place_151 (fun H locs hP hD hS => ?_)
            have hP : va_P D vwCl [((bd 0), .inr (5, [.int (nI 0), .ref (bd 1), .ref (bd 2), .int (nI um_), .ref (bd 3), .ref (bd 4), .ref (bd 5), .int (nI ln_), .int (nI (at_ + 1)), .int (nI 0), .ref (bd 6), .ref (bd 7), .ref (bd 8), .ref (bd 9), .ref (bd 10), .ref (bd 11), .ref (bd 12), .ref (bd 13), .ref (bd 14)])), ((bd 1), .inl (cy 0, 130, .inl (nIf f_))), ((bd 5), .inl (cy 0, 80, .inl (nIf pd_))), ((bd 7), .inl (cy 2, 16, .inl (nBf is_)))] H := hP
            have hD : va_D zA [((bd 0), .inr (5, [.int (nI 0), .ref (bd 1), .ref (bd 2), .int (nI um_), .ref (bd 3), .ref (bd 4), .ref (bd 5), .int (nI ln_), .int (nI (at_ + 1)), .int (nI 0), .ref (bd 6), .ref (bd 7), .ref (bd 8), .ref (bd 9), .ref (bd 10), .ref (bd 11), .ref (bd 12), .ref (bd 13), .ref (bd 14)])), ((bd 1), .inl (cy 0, 130, .inl (nIf f_))), ((bd 5), .inl (cy 0, 80, .inl (nIf pd_))), ((bd 7), .inl (cy 2, 16, .inl (nBf is_)))] := hD
            refine lv_aload_n hx hb dX8_place_154 rfl (lv_at hl 2 rfl) ?_
            refine va_get (D := D) (ci := 5) (v := .int (nI 0)) (C := RX8) (T := TX8) (N := 19) hx hb hts (fun w h => List.mem_cons_of_mem _ (zinX8 w h)) hown hK.1 hP 0 rfl rfl 9 (by decide) (hts _ (List.mem_cons_of_mem _ zw_201)) (fun _ h9 => h9) rfl dX8_place_155 ?_
            refine zb0_eq (a := 0) (tgt := 168) hx hb dX8_place_158 (by decide) (by decide) (fun c158 => ?_) (fun hd_ => absurd hd_ (by decide))
            refine lv_iload_n hx hb dX8_place_168 rfl (lv_at hl 1 rfl) ?_
            exact kr _ (at_ + 1, false, is_) _ _ _ _ dX8_place_169 (vp_nar_int _) (plR_no (j := (at_ + 1)) (by omega) (by omega) (pl_bad2 hN_ hjl hAJ hsyJ hJ2 (fun q_ => c125 q_.1))) hP hD hS
          · skip
            refine lv_aload_n hx hb dX8_place_128 rfl (lv_at hl 2 rfl) ?_
            refine zcRi (As := []) (rest := [.ref (bd 0)]) ⟨hx, hb, hml, hown, hts⟩ (c_X8_letter l D cy bd um_ ln_ (at_ + 1) true pd_ (by omega) hpd (by omega)) (cwV 0 hts (zG_V zw_202 zw_203 zw_204 zw_5 zw_205) rfl rfl rfl zd_X8_letter ⟨Nat.le_of_ble_eq_true rfl, Nat.le_of_ble_eq_true rfl⟩) hK hP [0, 2] rfl rfl rfl rfl rfl hl.1 rfl (Nat.le_of_ble_eq_true rfl) dX8_place_129 ⟨Nat.zero_le _, Nat.zero_le _⟩ (fun r129 h129 => ?_)
            subst h129
            refine lv_bipush (v := nI 44) hx hb dX8_place_132 (by decide) ?_
            refine zb_eq (a := ltr pd_ ln_ (at_ + 1)) (b := 44) (tgt := 146) hx hb dX8_place_134 (by decide) (by omega) (by omega) (fun c134 => ?_) (fun c134 => ?_)
            · skip
              refine lv_iconst (v := nI 1) hx hb dX8_place_146 (by decide) ?_
              refine lv_goto (tgt := 151) hx hb dX8_place_147 (by decide) ?_
              refine va_put (D := D) (ci := 5) (v := .int (nI 1)) (ty := .boolean) (C := RX8) (T := TX8) (N := 19) hx hb hts (fun w h => List.mem_cons_of_mem _ (zinX8 w h)) tyX8 tyX8_ok nmX8 hown hK.1 hP hD hS 0 rfl rfl 9 (by decide) (hts _ (List.mem_cons_of_mem _ zw_201)) (fun _ h9 => h9) rfl (tyX8_ok 9 (by decide)) rfl rfl (Nat.le_of_ble_eq_true rfl) dX8_place_151 (fun H locs hP hD hS => ?_)
              have hP : va_P D vwCl [((bd 0), .inr (5, [.int (nI 0), .ref (bd 1), .ref (bd 2), .int (nI um_), .ref (bd 3), .ref (bd 4), .ref (bd 5), .int (nI ln_), .int (nI (at_ + 1)), .int (nI 1), .ref (bd 6), .ref (bd 7), .ref (bd 8), .ref (bd 9), .ref (bd 10), .ref (bd 11), .ref (bd 12), .ref (bd 13), .ref (bd 14)])), ((bd 1), .inl (cy 0, 130, .inl (nIf f_))), ((bd 5), .inl (cy 0, 80, .inl (nIf pd_))), ((bd 7), .inl (cy 2, 16, .inl (nBf is_)))] H := hP
              have hD : va_D zA [((bd 0), .inr (5, [.int (nI 0), .ref (bd 1), .ref (bd 2), .int (nI um_), .ref (bd 3), .ref (bd 4), .ref (bd 5), .int (nI ln_), .int (nI (at_ + 1)), .int (nI 1), .ref (bd 6), .ref (bd 7), .ref (bd 8), .ref (bd 9), .ref (bd 10), .ref (bd 11), .ref (bd 12), .ref (bd 13), .ref (bd 14)])), ((bd 1), .inl (cy 0, 130, .inl (nIf f_))), ((bd 5), .inl (cy 0, 80, .inl (nIf pd_))), ((bd 7), .inl (cy 2, 16, .inl (nBf is_)))] := hD
              refine lv_aload_n hx hb dX8_place_154 rfl (lv_at hl 2 rfl) ?_
              refine va_get (D := D) (ci := 5) (v := .int (nI 1)) (C := RX8) (T := TX8) (N := 19) hx hb hts (fun w h => List.mem_cons_of_mem _ (zinX8 w h)) hown hK.1 hP 0 rfl rfl 9 (by decide) (hts _ (List.mem_cons_of_mem _ zw_201)) (fun _ h9 => h9) rfl dX8_place_155 ?_
              refine zb0_eq (a := 1) (tgt := 168) hx hb dX8_place_158 (by decide) (by decide) (fun hd_ => absurd hd_ (by decide)) (fun c158 => ?_)
              have hf161 := frE_lt c125
              refine lv_aload_n hx hb dX8_place_161 rfl (lv_at hl 2 rfl) ?_
              refine va_get (D := D) (ci := 5) (v := .ref (bd 7)) (C := RX8) (T := TX8) (N := 19) hx hb hts (fun w h => List.mem_cons_of_mem _ (zinX8 w h)) hown hK.1 hP 0 rfl rfl 11 (by decide) (hts _ (List.mem_cons_of_mem _ zw_80)) (fun _ h9 => h9) rfl dX8_place_162 ?_
              refine lv_iload_n hx hb dX8_place_165 rfl (lv_at hl 1 rfl) ?_
              refine lv_iconst (v := nI 1) hx hb dX8_place_166 (by decide) ?_
              refine zi_zast hx hb hK hP hD hS 3 rfl (by omega) (by omega) rfl dX8_place_167 (fun H locs hP hD hS => ?_)
              rw [upd_nB1] at hP hD
              have hP : va_P D vwCl [((bd 0), .inr (5, [.int (nI 0), .ref (bd 1), .ref (bd 2), .int (nI um_), .ref (bd 3), .ref (bd 4), .ref (bd 5), .int (nI ln_), .int (nI (at_ + 1)), .int (nI 1), .ref (bd 6), .ref (bd 7), .ref (bd 8), .ref (bd 9), .ref (bd 10), .ref (bd 11), .ref (bd 12), .ref (bd 13), .ref (bd 14)])), ((bd 1), .inl (cy 0, 130, .inl (nIf f_))), ((bd 5), .inl (cy 0, 80, .inl (nIf pd_))), ((bd 7), .inl (cy 2, 16, .inl (nBf (uB1 is_ (ltr pd_ ln_ at_ - 48) true))))] H := hP
              have hD : va_D zA [((bd 0), .inr (5, [.int (nI 0), .ref (bd 1), .ref (bd 2), .int (nI um_), .ref (bd 3), .ref (bd 4), .ref (bd 5), .int (nI ln_), .int (nI (at_ + 1)), .int (nI 1), .ref (bd 6), .ref (bd 7), .ref (bd 8), .ref (bd 9), .ref (bd 10), .ref (bd 11), .ref (bd 12), .ref (bd 13), .ref (bd 14)])), ((bd 1), .inl (cy 0, 130, .inl (nIf f_))), ((bd 5), .inl (cy 0, 80, .inl (nIf pd_))), ((bd 7), .inl (cy 2, 16, .inl (nBf (uB1 is_ (ltr pd_ ln_ at_ - 48) true))))] := hD
              refine lv_iload_n hx hb dX8_place_168 rfl (lv_at hl 1 rfl) ?_
              exact kr _ (at_ + 1, true, (uB1 is_ (ltr pd_ ln_ at_ - 48) true)) _ _ _ _ dX8_place_169 (vp_nar_int _) (plR_yes (j := (at_ + 1)) (by omega) hsyJ hAJ c125 (Or.inl c134)) hP hD hS
            · skip
              refine lv_aload_n hx hb dX8_place_137 rfl (lv_at hl 2 rfl) ?_
              refine zcRi (As := []) (rest := [.ref (bd 0)]) ⟨hx, hb, hml, hown, hts⟩ (c_X8_letter l D cy bd um_ ln_ (at_ + 1) true pd_ (by omega) hpd (by omega)) (cwV 0 hts (zG_V zw_202 zw_203 zw_204 zw_5 zw_205) rfl rfl rfl zd_X8_letter ⟨Nat.le_of_ble_eq_true rfl, Nat.le_of_ble_eq_true rfl⟩) hK hP [0, 2] rfl rfl rfl rfl rfl hl.1 rfl (Nat.le_of_ble_eq_true rfl) dX8_place_138 ⟨Nat.zero_le _, Nat.zero_le _⟩ (fun r138 h138 => ?_)
              subst h138
              refine lv_bipush (v := nI 41) hx hb dX8_place_141 (by decide) ?_
              refine zb_ne (a := ltr pd_ ln_ (at_ + 1)) (b := 41) (tgt := 150) hx hb dX8_place_143 (by decide) (by omega) (by omega) (fun c143 => ?_) (fun c143 => ?_)
              · skip
                refine lv_iconst (v := nI 0) hx hb dX8_place_150 (by decide) ?_
                refine va_put (D := D) (ci := 5) (v := .int (nI 0)) (ty := .boolean) (C := RX8) (T := TX8) (N := 19) hx hb hts (fun w h => List.mem_cons_of_mem _ (zinX8 w h)) tyX8 tyX8_ok nmX8 hown hK.1 hP hD hS 0 rfl rfl 9 (by decide) (hts _ (List.mem_cons_of_mem _ zw_201)) (fun _ h9 => h9) rfl (tyX8_ok 9 (by decide)) rfl rfl (Nat.le_of_ble_eq_true rfl) dX8_place_151 (fun H locs hP hD hS => ?_)
                have hP : va_P D vwCl [((bd 0), .inr (5, [.int (nI 0), .ref (bd 1), .ref (bd 2), .int (nI um_), .ref (bd 3), .ref (bd 4), .ref (bd 5), .int (nI ln_), .int (nI (at_ + 1)), .int (nI 0), .ref (bd 6), .ref (bd 7), .ref (bd 8), .ref (bd 9), .ref (bd 10), .ref (bd 11), .ref (bd 12), .ref (bd 13), .ref (bd 14)])), ((bd 1), .inl (cy 0, 130, .inl (nIf f_))), ((bd 5), .inl (cy 0, 80, .inl (nIf pd_))), ((bd 7), .inl (cy 2, 16, .inl (nBf is_)))] H := hP
                have hD : va_D zA [((bd 0), .inr (5, [.int (nI 0), .ref (bd 1), .ref (bd 2), .int (nI um_), .ref (bd 3), .ref (bd 4), .ref (bd 5), .int (nI ln_), .int (nI (at_ + 1)), .int (nI 0), .ref (bd 6), .ref (bd 7), .ref (bd 8), .ref (bd 9), .ref (bd 10), .ref (bd 11), .ref (bd 12), .ref (bd 13), .ref (bd 14)])), ((bd 1), .inl (cy 0, 130, .inl (nIf f_))), ((bd 5), .inl (cy 0, 80, .inl (nIf pd_))), ((bd 7), .inl (cy 2, 16, .inl (nBf is_)))] := hD
                refine lv_aload_n hx hb dX8_place_154 rfl (lv_at hl 2 rfl) ?_
                refine va_get (D := D) (ci := 5) (v := .int (nI 0)) (C := RX8) (T := TX8) (N := 19) hx hb hts (fun w h => List.mem_cons_of_mem _ (zinX8 w h)) hown hK.1 hP 0 rfl rfl 9 (by decide) (hts _ (List.mem_cons_of_mem _ zw_201)) (fun _ h9 => h9) rfl dX8_place_155 ?_
                refine zb0_eq (a := 0) (tgt := 168) hx hb dX8_place_158 (by decide) (by decide) (fun c158 => ?_) (fun hd_ => absurd hd_ (by decide))
                refine lv_iload_n hx hb dX8_place_168 rfl (lv_at hl 1 rfl) ?_
                exact kr _ (at_ + 1, false, is_) _ _ _ _ dX8_place_169 (vp_nar_int _) (plR_no (j := (at_ + 1)) (by omega) (by omega) (pl_bad2 hN_ hjl hAJ hsyJ hJ2 (fun q_ => q_.2.elim c134 c143))) hP hD hS
              · skip
                refine lv_iconst (v := nI 1) hx hb dX8_place_146 (by decide) ?_
                refine lv_goto (tgt := 151) hx hb dX8_place_147 (by decide) ?_
                refine va_put (D := D) (ci := 5) (v := .int (nI 1)) (ty := .boolean) (C := RX8) (T := TX8) (N := 19) hx hb hts (fun w h => List.mem_cons_of_mem _ (zinX8 w h)) tyX8 tyX8_ok nmX8 hown hK.1 hP hD hS 0 rfl rfl 9 (by decide) (hts _ (List.mem_cons_of_mem _ zw_201)) (fun _ h9 => h9) rfl (tyX8_ok 9 (by decide)) rfl rfl (Nat.le_of_ble_eq_true rfl) dX8_place_151 (fun H locs hP hD hS => ?_)
                have hP : va_P D vwCl [((bd 0), .inr (5, [.int (nI 0), .ref (bd 1), .ref (bd 2), .int (nI um_), .ref (bd 3), .ref (bd 4), .ref (bd 5), .int (nI ln_), .int (nI (at_ + 1)), .int (nI 1), .ref (bd 6), .ref (bd 7), .ref (bd 8), .ref (bd 9), .ref (bd 10), .ref (bd 11), .ref (bd 12), .ref (bd 13), .ref (bd 14)])), ((bd 1), .inl (cy 0, 130, .inl (nIf f_))), ((bd 5), .inl (cy 0, 80, .inl (nIf pd_))), ((bd 7), .inl (cy 2, 16, .inl (nBf is_)))] H := hP
                have hD : va_D zA [((bd 0), .inr (5, [.int (nI 0), .ref (bd 1), .ref (bd 2), .int (nI um_), .ref (bd 3), .ref (bd 4), .ref (bd 5), .int (nI ln_), .int (nI (at_ + 1)), .int (nI 1), .ref (bd 6), .ref (bd 7), .ref (bd 8), .ref (bd 9), .ref (bd 10), .ref (bd 11), .ref (bd 12), .ref (bd 13), .ref (bd 14)])), ((bd 1), .inl (cy 0, 130, .inl (nIf f_))), ((bd 5), .inl (cy 0, 80, .inl (nIf pd_))), ((bd 7), .inl (cy 2, 16, .inl (nBf is_)))] := hD
                refine lv_aload_n hx hb dX8_place_154 rfl (lv_at hl 2 rfl) ?_
                refine va_get (D := D) (ci := 5) (v := .int (nI 1)) (C := RX8) (T := TX8) (N := 19) hx hb hts (fun w h => List.mem_cons_of_mem _ (zinX8 w h)) hown hK.1 hP 0 rfl rfl 9 (by decide) (hts _ (List.mem_cons_of_mem _ zw_201)) (fun _ h9 => h9) rfl dX8_place_155 ?_
                refine zb0_eq (a := 1) (tgt := 168) hx hb dX8_place_158 (by decide) (by decide) (fun hd_ => absurd hd_ (by decide)) (fun c158 => ?_)
                have hf161 := frE_lt c125
                refine lv_aload_n hx hb dX8_place_161 rfl (lv_at hl 2 rfl) ?_
                refine va_get (D := D) (ci := 5) (v := .ref (bd 7)) (C := RX8) (T := TX8) (N := 19) hx hb hts (fun w h => List.mem_cons_of_mem _ (zinX8 w h)) hown hK.1 hP 0 rfl rfl 11 (by decide) (hts _ (List.mem_cons_of_mem _ zw_80)) (fun _ h9 => h9) rfl dX8_place_162 ?_
                refine lv_iload_n hx hb dX8_place_165 rfl (lv_at hl 1 rfl) ?_
                refine lv_iconst (v := nI 1) hx hb dX8_place_166 (by decide) ?_
                refine zi_zast hx hb hK hP hD hS 3 rfl (by omega) (by omega) rfl dX8_place_167 (fun H locs hP hD hS => ?_)
                rw [upd_nB1] at hP hD
                have hP : va_P D vwCl [((bd 0), .inr (5, [.int (nI 0), .ref (bd 1), .ref (bd 2), .int (nI um_), .ref (bd 3), .ref (bd 4), .ref (bd 5), .int (nI ln_), .int (nI (at_ + 1)), .int (nI 1), .ref (bd 6), .ref (bd 7), .ref (bd 8), .ref (bd 9), .ref (bd 10), .ref (bd 11), .ref (bd 12), .ref (bd 13), .ref (bd 14)])), ((bd 1), .inl (cy 0, 130, .inl (nIf f_))), ((bd 5), .inl (cy 0, 80, .inl (nIf pd_))), ((bd 7), .inl (cy 2, 16, .inl (nBf (uB1 is_ (ltr pd_ ln_ at_ - 48) true))))] H := hP
                have hD : va_D zA [((bd 0), .inr (5, [.int (nI 0), .ref (bd 1), .ref (bd 2), .int (nI um_), .ref (bd 3), .ref (bd 4), .ref (bd 5), .int (nI ln_), .int (nI (at_ + 1)), .int (nI 1), .ref (bd 6), .ref (bd 7), .ref (bd 8), .ref (bd 9), .ref (bd 10), .ref (bd 11), .ref (bd 12), .ref (bd 13), .ref (bd 14)])), ((bd 1), .inl (cy 0, 130, .inl (nIf f_))), ((bd 5), .inl (cy 0, 80, .inl (nIf pd_))), ((bd 7), .inl (cy 2, 16, .inl (nBf (uB1 is_ (ltr pd_ ln_ at_ - 48) true))))] := hD
                refine lv_iload_n hx hb dX8_place_168 rfl (lv_at hl 1 rfl) ?_
                exact kr _ (at_ + 1, true, (uB1 is_ (ltr pd_ ln_ at_ - 48) true)) _ _ _ _ dX8_place_169 (vp_nar_int _) (plR_yes (j := (at_ + 1)) (by omega) hsyJ hAJ c125 (Or.inr c143)) hP hD hS
        · skip
          have e86 : nI (ltr pd_ ln_ (at_ + 1)) - nI 48 = nI (ltr pd_ ln_ (at_ + 1) - 48) := pk_sub (by omega)
          rw [e86] at hl
          refine lv_aload_n hx hb dX8_place_86 rfl (lv_at hl 2 rfl) ?_
          refine lv_bipush (v := nI 10) hx hb dX8_place_87 (by decide) ?_
          refine lv_iload_n hx hb dX8_place_89 rfl (lv_at hl 0 rfl) ?_
          refine zi_add (v := nI (10 + (ltr pd_ ln_ (at_ + 1) - 48))) hx hb dX8_place_90 (nI_add _ _) ?_
          refine zcRi (As := [.int (nI (10 + (ltr pd_ ln_ (at_ + 1) - 48)))]) (rest := []) ⟨hx, hb, hml, hown, hts⟩ (c_X8_isLeft l D cy bd um_ ln_ (at_ + 1) true f_ is_ us_ (10 + (ltr pd_ ln_ (at_ + 1) - 48)) (by omega) his (by omega)) (cwV 1 hts (zG_V zw_218 zw_219 zw_220 zw_5 zw_221) rfl rfl rfl zd_X8_isLeft ⟨Nat.le_of_ble_eq_true rfl, Nat.le_of_ble_eq_true rfl⟩) hK hP [0, 1, 3] rfl rfl rfl rfl rfl hl.1 rfl (Nat.le_of_ble_eq_true rfl) dX8_place_91 ⟨Nat.zero_le _, Nat.zero_le _⟩ (fun r91 h91 => ?_)
          subst h91
          refine zq_eq (tgt := 112) hx hb dX8_place_94 (by decide) (fun c94 => ?_) (fun c94 => ?_)
          · skip
            have hsyJ := hsy1
            have hAJ := hA1
            have hJ2 : 10 ≤ ltr pd_ ln_ at_ - 48 ∨ ¬ (48 ≤ ltr pd_ ln_ (at_ + 1) ∧ ltr pd_ ln_ (at_ + 1) ≤ 57 ∧ ltr pd_ ln_ at_ - 48 = 1 ∧ frE (f_ 0) us_ (10 + (ltr pd_ ln_ (at_ + 1) - 48)) = true) := Or.inr (fun q_ => c94 q_.2.2.2)
            have hjl : at_ + 1 ≤ ln_ := by omega
            have hLJ := ltr_lt hpd (at_ + 1)
            refine lv_aload_n hx hb dX8_place_112 rfl (lv_at hl 2 rfl) ?_
            refine lv_aload_n hx hb dX8_place_113 rfl (lv_at hl 2 rfl) ?_
            refine va_get (D := D) (ci := 5) (v := .int (nI 1)) (C := RX8) (T := TX8) (N := 19) hx hb hts (fun w h => List.mem_cons_of_mem _ (zinX8 w h)) hown hK.1 hP 0 rfl rfl 9 (by decide) (hts _ (List.mem_cons_of_mem _ zw_201)) (fun _ h9 => h9) rfl dX8_place_114 ?_
            refine zb0_eq (a := 1) (tgt := 150) hx hb dX8_place_117 (by decide) (by decide) (fun hd_ => absurd hd_ (by decide)) (fun c117 => ?_)
            refine lv_aload_n hx hb dX8_place_120 rfl (lv_at hl 2 rfl) ?_
            refine lv_iload_n hx hb dX8_place_121 rfl (lv_at hl 1 rfl) ?_
            refine zcRi (As := [.int (nI (ltr pd_ ln_ at_ - 48))]) (rest := [.ref (bd 0)]) ⟨hx, hb, hml, hown, hts⟩ (c_X8_isLeft l D cy bd um_ ln_ (at_ + 1) true f_ is_ us_ (ltr pd_ ln_ at_ - 48) (by omega) his (by omega)) (cwV 1 hts (zG_V zw_218 zw_219 zw_220 zw_5 zw_221) rfl rfl rfl zd_X8_isLeft ⟨Nat.le_of_ble_eq_true rfl, Nat.le_of_ble_eq_true rfl⟩) hK hP [0, 1, 3] rfl rfl rfl rfl rfl hl.1 rfl (Nat.le_of_ble_eq_true rfl) dX8_place_122 ⟨Nat.zero_le _, Nat.zero_le _⟩ (fun r122 h122 => ?_)
            subst h122
            refine zq_eq (tgt := 150) hx hb dX8_place_125 (by decide) (fun c125 => ?_) (fun c125 => ?_)
            · skip
              refine lv_iconst (v := nI 0) hx hb dX8_place_150 (by decide) ?_
              refine va_put (D := D) (ci := 5) (v := .int (nI 0)) (ty := .boolean) (C := RX8) (T := TX8) (N := 19) hx hb hts (fun w h => List.mem_cons_of_mem _ (zinX8 w h)) tyX8 tyX8_ok nmX8 hown hK.1 hP hD hS 0 rfl rfl 9 (by decide) (hts _ (List.mem_cons_of_mem _ zw_201)) (fun _ h9 => h9) rfl (tyX8_ok 9 (by decide)) rfl rfl (Nat.le_of_ble_eq_true rfl) dX8_place_151 (fun H locs hP hD hS => ?_)
              have hP : va_P D vwCl [((bd 0), .inr (5, [.int (nI 0), .ref (bd 1), .ref (bd 2), .int (nI um_), .ref (bd 3), .ref (bd 4), .ref (bd 5), .int (nI ln_), .int (nI (at_ + 1)), .int (nI 0), .ref (bd 6), .ref (bd 7), .ref (bd 8), .ref (bd 9), .ref (bd 10), .ref (bd 11), .ref (bd 12), .ref (bd 13), .ref (bd 14)])), ((bd 1), .inl (cy 0, 130, .inl (nIf f_))), ((bd 5), .inl (cy 0, 80, .inl (nIf pd_))), ((bd 7), .inl (cy 2, 16, .inl (nBf is_)))] H := hP
              have hD : va_D zA [((bd 0), .inr (5, [.int (nI 0), .ref (bd 1), .ref (bd 2), .int (nI um_), .ref (bd 3), .ref (bd 4), .ref (bd 5), .int (nI ln_), .int (nI (at_ + 1)), .int (nI 0), .ref (bd 6), .ref (bd 7), .ref (bd 8), .ref (bd 9), .ref (bd 10), .ref (bd 11), .ref (bd 12), .ref (bd 13), .ref (bd 14)])), ((bd 1), .inl (cy 0, 130, .inl (nIf f_))), ((bd 5), .inl (cy 0, 80, .inl (nIf pd_))), ((bd 7), .inl (cy 2, 16, .inl (nBf is_)))] := hD
              refine lv_aload_n hx hb dX8_place_154 rfl (lv_at hl 2 rfl) ?_
              refine va_get (D := D) (ci := 5) (v := .int (nI 0)) (C := RX8) (T := TX8) (N := 19) hx hb hts (fun w h => List.mem_cons_of_mem _ (zinX8 w h)) hown hK.1 hP 0 rfl rfl 9 (by decide) (hts _ (List.mem_cons_of_mem _ zw_201)) (fun _ h9 => h9) rfl dX8_place_155 ?_
              refine zb0_eq (a := 0) (tgt := 168) hx hb dX8_place_158 (by decide) (by decide) (fun c158 => ?_) (fun hd_ => absurd hd_ (by decide))
              refine lv_iload_n hx hb dX8_place_168 rfl (lv_at hl 1 rfl) ?_
              exact kr _ (at_ + 1, false, is_) _ _ _ _ dX8_place_169 (vp_nar_int _) (plR_no (j := (at_ + 1)) (by omega) (by omega) (pl_bad2 hN_ hjl hAJ hsyJ hJ2 (fun q_ => c125 q_.1))) hP hD hS
            · skip
              refine lv_aload_n hx hb dX8_place_128 rfl (lv_at hl 2 rfl) ?_
              refine zcRi (As := []) (rest := [.ref (bd 0)]) ⟨hx, hb, hml, hown, hts⟩ (c_X8_letter l D cy bd um_ ln_ (at_ + 1) true pd_ (by omega) hpd (by omega)) (cwV 0 hts (zG_V zw_202 zw_203 zw_204 zw_5 zw_205) rfl rfl rfl zd_X8_letter ⟨Nat.le_of_ble_eq_true rfl, Nat.le_of_ble_eq_true rfl⟩) hK hP [0, 2] rfl rfl rfl rfl rfl hl.1 rfl (Nat.le_of_ble_eq_true rfl) dX8_place_129 ⟨Nat.zero_le _, Nat.zero_le _⟩ (fun r129 h129 => ?_)
              subst h129
              refine lv_bipush (v := nI 44) hx hb dX8_place_132 (by decide) ?_
              refine zb_eq (a := ltr pd_ ln_ (at_ + 1)) (b := 44) (tgt := 146) hx hb dX8_place_134 (by decide) (by omega) (by omega) (fun c134 => ?_) (fun c134 => ?_)
              · skip
                refine lv_iconst (v := nI 1) hx hb dX8_place_146 (by decide) ?_
                refine lv_goto (tgt := 151) hx hb dX8_place_147 (by decide) ?_
                refine va_put (D := D) (ci := 5) (v := .int (nI 1)) (ty := .boolean) (C := RX8) (T := TX8) (N := 19) hx hb hts (fun w h => List.mem_cons_of_mem _ (zinX8 w h)) tyX8 tyX8_ok nmX8 hown hK.1 hP hD hS 0 rfl rfl 9 (by decide) (hts _ (List.mem_cons_of_mem _ zw_201)) (fun _ h9 => h9) rfl (tyX8_ok 9 (by decide)) rfl rfl (Nat.le_of_ble_eq_true rfl) dX8_place_151 (fun H locs hP hD hS => ?_)
                have hP : va_P D vwCl [((bd 0), .inr (5, [.int (nI 0), .ref (bd 1), .ref (bd 2), .int (nI um_), .ref (bd 3), .ref (bd 4), .ref (bd 5), .int (nI ln_), .int (nI (at_ + 1)), .int (nI 1), .ref (bd 6), .ref (bd 7), .ref (bd 8), .ref (bd 9), .ref (bd 10), .ref (bd 11), .ref (bd 12), .ref (bd 13), .ref (bd 14)])), ((bd 1), .inl (cy 0, 130, .inl (nIf f_))), ((bd 5), .inl (cy 0, 80, .inl (nIf pd_))), ((bd 7), .inl (cy 2, 16, .inl (nBf is_)))] H := hP
                have hD : va_D zA [((bd 0), .inr (5, [.int (nI 0), .ref (bd 1), .ref (bd 2), .int (nI um_), .ref (bd 3), .ref (bd 4), .ref (bd 5), .int (nI ln_), .int (nI (at_ + 1)), .int (nI 1), .ref (bd 6), .ref (bd 7), .ref (bd 8), .ref (bd 9), .ref (bd 10), .ref (bd 11), .ref (bd 12), .ref (bd 13), .ref (bd 14)])), ((bd 1), .inl (cy 0, 130, .inl (nIf f_))), ((bd 5), .inl (cy 0, 80, .inl (nIf pd_))), ((bd 7), .inl (cy 2, 16, .inl (nBf is_)))] := hD
                refine lv_aload_n hx hb dX8_place_154 rfl (lv_at hl 2 rfl) ?_
                refine va_get (D := D) (ci := 5) (v := .int (nI 1)) (C := RX8) (T := TX8) (N := 19) hx hb hts (fun w h => List.mem_cons_of_mem _ (zinX8 w h)) hown hK.1 hP 0 rfl rfl 9 (by decide) (hts _ (List.mem_cons_of_mem _ zw_201)) (fun _ h9 => h9) rfl dX8_place_155 ?_
                refine zb0_eq (a := 1) (tgt := 168) hx hb dX8_place_158 (by decide) (by decide) (fun hd_ => absurd hd_ (by decide)) (fun c158 => ?_)
                have hf161 := frE_lt c125
                refine lv_aload_n hx hb dX8_place_161 rfl (lv_at hl 2 rfl) ?_
                refine va_get (D := D) (ci := 5) (v := .ref (bd 7)) (C := RX8) (T := TX8) (N := 19) hx hb hts (fun w h => List.mem_cons_of_mem _ (zinX8 w h)) hown hK.1 hP 0 rfl rfl 11 (by decide) (hts _ (List.mem_cons_of_mem _ zw_80)) (fun _ h9 => h9) rfl dX8_place_162 ?_
                refine lv_iload_n hx hb dX8_place_165 rfl (lv_at hl 1 rfl) ?_
                refine lv_iconst (v := nI 1) hx hb dX8_place_166 (by decide) ?_
                refine zi_zast hx hb hK hP hD hS 3 rfl (by omega) (by omega) rfl dX8_place_167 (fun H locs hP hD hS => ?_)
                rw [upd_nB1] at hP hD
                have hP : va_P D vwCl [((bd 0), .inr (5, [.int (nI 0), .ref (bd 1), .ref (bd 2), .int (nI um_), .ref (bd 3), .ref (bd 4), .ref (bd 5), .int (nI ln_), .int (nI (at_ + 1)), .int (nI 1), .ref (bd 6), .ref (bd 7), .ref (bd 8), .ref (bd 9), .ref (bd 10), .ref (bd 11), .ref (bd 12), .ref (bd 13), .ref (bd 14)])), ((bd 1), .inl (cy 0, 130, .inl (nIf f_))), ((bd 5), .inl (cy 0, 80, .inl (nIf pd_))), ((bd 7), .inl (cy 2, 16, .inl (nBf (uB1 is_ (ltr pd_ ln_ at_ - 48) true))))] H := hP
                have hD : va_D zA [((bd 0), .inr (5, [.int (nI 0), .ref (bd 1), .ref (bd 2), .int (nI um_), .ref (bd 3), .ref (bd 4), .ref (bd 5), .int (nI ln_), .int (nI (at_ + 1)), .int (nI 1), .ref (bd 6), .ref (bd 7), .ref (bd 8), .ref (bd 9), .ref (bd 10), .ref (bd 11), .ref (bd 12), .ref (bd 13), .ref (bd 14)])), ((bd 1), .inl (cy 0, 130, .inl (nIf f_))), ((bd 5), .inl (cy 0, 80, .inl (nIf pd_))), ((bd 7), .inl (cy 2, 16, .inl (nBf (uB1 is_ (ltr pd_ ln_ at_ - 48) true))))] := hD
                refine lv_iload_n hx hb dX8_place_168 rfl (lv_at hl 1 rfl) ?_
                exact kr _ (at_ + 1, true, (uB1 is_ (ltr pd_ ln_ at_ - 48) true)) _ _ _ _ dX8_place_169 (vp_nar_int _) (plR_yes (j := (at_ + 1)) (by omega) hsyJ hAJ c125 (Or.inl c134)) hP hD hS
              · skip
                refine lv_aload_n hx hb dX8_place_137 rfl (lv_at hl 2 rfl) ?_
                refine zcRi (As := []) (rest := [.ref (bd 0)]) ⟨hx, hb, hml, hown, hts⟩ (c_X8_letter l D cy bd um_ ln_ (at_ + 1) true pd_ (by omega) hpd (by omega)) (cwV 0 hts (zG_V zw_202 zw_203 zw_204 zw_5 zw_205) rfl rfl rfl zd_X8_letter ⟨Nat.le_of_ble_eq_true rfl, Nat.le_of_ble_eq_true rfl⟩) hK hP [0, 2] rfl rfl rfl rfl rfl hl.1 rfl (Nat.le_of_ble_eq_true rfl) dX8_place_138 ⟨Nat.zero_le _, Nat.zero_le _⟩ (fun r138 h138 => ?_)
                subst h138
                refine lv_bipush (v := nI 41) hx hb dX8_place_141 (by decide) ?_
                refine zb_ne (a := ltr pd_ ln_ (at_ + 1)) (b := 41) (tgt := 150) hx hb dX8_place_143 (by decide) (by omega) (by omega) (fun c143 => ?_) (fun c143 => ?_)
                · skip
                  refine lv_iconst (v := nI 0) hx hb dX8_place_150 (by decide) ?_
                  refine va_put (D := D) (ci := 5) (v := .int (nI 0)) (ty := .boolean) (C := RX8) (T := TX8) (N := 19) hx hb hts (fun w h => List.mem_cons_of_mem _ (zinX8 w h)) tyX8 tyX8_ok nmX8 hown hK.1 hP hD hS 0 rfl rfl 9 (by decide) (hts _ (List.mem_cons_of_mem _ zw_201)) (fun _ h9 => h9) rfl (tyX8_ok 9 (by decide)) rfl rfl (Nat.le_of_ble_eq_true rfl) dX8_place_151 (fun H locs hP hD hS => ?_)
                  have hP : va_P D vwCl [((bd 0), .inr (5, [.int (nI 0), .ref (bd 1), .ref (bd 2), .int (nI um_), .ref (bd 3), .ref (bd 4), .ref (bd 5), .int (nI ln_), .int (nI (at_ + 1)), .int (nI 0), .ref (bd 6), .ref (bd 7), .ref (bd 8), .ref (bd 9), .ref (bd 10), .ref (bd 11), .ref (bd 12), .ref (bd 13), .ref (bd 14)])), ((bd 1), .inl (cy 0, 130, .inl (nIf f_))), ((bd 5), .inl (cy 0, 80, .inl (nIf pd_))), ((bd 7), .inl (cy 2, 16, .inl (nBf is_)))] H := hP
                  have hD : va_D zA [((bd 0), .inr (5, [.int (nI 0), .ref (bd 1), .ref (bd 2), .int (nI um_), .ref (bd 3), .ref (bd 4), .ref (bd 5), .int (nI ln_), .int (nI (at_ + 1)), .int (nI 0), .ref (bd 6), .ref (bd 7), .ref (bd 8), .ref (bd 9), .ref (bd 10), .ref (bd 11), .ref (bd 12), .ref (bd 13), .ref (bd 14)])), ((bd 1), .inl (cy 0, 130, .inl (nIf f_))), ((bd 5), .inl (cy 0, 80, .inl (nIf pd_))), ((bd 7), .inl (cy 2, 16, .inl (nBf is_)))] := hD
                  refine lv_aload_n hx hb dX8_place_154 rfl (lv_at hl 2 rfl) ?_
                  refine va_get (D := D) (ci := 5) (v := .int (nI 0)) (C := RX8) (T := TX8) (N := 19) hx hb hts (fun w h => List.mem_cons_of_mem _ (zinX8 w h)) hown hK.1 hP 0 rfl rfl 9 (by decide) (hts _ (List.mem_cons_of_mem _ zw_201)) (fun _ h9 => h9) rfl dX8_place_155 ?_
                  refine zb0_eq (a := 0) (tgt := 168) hx hb dX8_place_158 (by decide) (by decide) (fun c158 => ?_) (fun hd_ => absurd hd_ (by decide))
                  refine lv_iload_n hx hb dX8_place_168 rfl (lv_at hl 1 rfl) ?_
                  exact kr _ (at_ + 1, false, is_) _ _ _ _ dX8_place_169 (vp_nar_int _) (plR_no (j := (at_ + 1)) (by omega) (by omega) (pl_bad2 hN_ hjl hAJ hsyJ hJ2 (fun q_ => q_.2.elim c134 c143))) hP hD hS
                · skip
                  refine lv_iconst (v := nI 1) hx hb dX8_place_146 (by decide) ?_
                  refine lv_goto (tgt := 151) hx hb dX8_place_147 (by decide) ?_
                  refine va_put (D := D) (ci := 5) (v := .int (nI 1)) (ty := .boolean) (C := RX8) (T := TX8) (N := 19) hx hb hts (fun w h => List.mem_cons_of_mem _ (zinX8 w h)) tyX8 tyX8_ok nmX8 hown hK.1 hP hD hS 0 rfl rfl 9 (by decide) (hts _ (List.mem_cons_of_mem _ zw_201)) (fun _ h9 => h9) rfl (tyX8_ok 9 (by decide)) rfl rfl (Nat.le_of_ble_eq_true rfl) dX8_place_151 (fun H locs hP hD hS => ?_)
                  have hP : va_P D vwCl [((bd 0), .inr (5, [.int (nI 0), .ref (bd 1), .ref (bd 2), .int (nI um_), .ref (bd 3), .ref (bd 4), .ref (bd 5), .int (nI ln_), .int (nI (at_ + 1)), .int (nI 1), .ref (bd 6), .ref (bd 7), .ref (bd 8), .ref (bd 9), .ref (bd 10), .ref (bd 11), .ref (bd 12), .ref (bd 13), .ref (bd 14)])), ((bd 1), .inl (cy 0, 130, .inl (nIf f_))), ((bd 5), .inl (cy 0, 80, .inl (nIf pd_))), ((bd 7), .inl (cy 2, 16, .inl (nBf is_)))] H := hP
                  have hD : va_D zA [((bd 0), .inr (5, [.int (nI 0), .ref (bd 1), .ref (bd 2), .int (nI um_), .ref (bd 3), .ref (bd 4), .ref (bd 5), .int (nI ln_), .int (nI (at_ + 1)), .int (nI 1), .ref (bd 6), .ref (bd 7), .ref (bd 8), .ref (bd 9), .ref (bd 10), .ref (bd 11), .ref (bd 12), .ref (bd 13), .ref (bd 14)])), ((bd 1), .inl (cy 0, 130, .inl (nIf f_))), ((bd 5), .inl (cy 0, 80, .inl (nIf pd_))), ((bd 7), .inl (cy 2, 16, .inl (nBf is_)))] := hD
                  refine lv_aload_n hx hb dX8_place_154 rfl (lv_at hl 2 rfl) ?_
                  refine va_get (D := D) (ci := 5) (v := .int (nI 1)) (C := RX8) (T := TX8) (N := 19) hx hb hts (fun w h => List.mem_cons_of_mem _ (zinX8 w h)) hown hK.1 hP 0 rfl rfl 9 (by decide) (hts _ (List.mem_cons_of_mem _ zw_201)) (fun _ h9 => h9) rfl dX8_place_155 ?_
                  refine zb0_eq (a := 1) (tgt := 168) hx hb dX8_place_158 (by decide) (by decide) (fun hd_ => absurd hd_ (by decide)) (fun c158 => ?_)
                  have hf161 := frE_lt c125
                  refine lv_aload_n hx hb dX8_place_161 rfl (lv_at hl 2 rfl) ?_
                  refine va_get (D := D) (ci := 5) (v := .ref (bd 7)) (C := RX8) (T := TX8) (N := 19) hx hb hts (fun w h => List.mem_cons_of_mem _ (zinX8 w h)) hown hK.1 hP 0 rfl rfl 11 (by decide) (hts _ (List.mem_cons_of_mem _ zw_80)) (fun _ h9 => h9) rfl dX8_place_162 ?_
                  refine lv_iload_n hx hb dX8_place_165 rfl (lv_at hl 1 rfl) ?_
                  refine lv_iconst (v := nI 1) hx hb dX8_place_166 (by decide) ?_
                  refine zi_zast hx hb hK hP hD hS 3 rfl (by omega) (by omega) rfl dX8_place_167 (fun H locs hP hD hS => ?_)
                  rw [upd_nB1] at hP hD
                  have hP : va_P D vwCl [((bd 0), .inr (5, [.int (nI 0), .ref (bd 1), .ref (bd 2), .int (nI um_), .ref (bd 3), .ref (bd 4), .ref (bd 5), .int (nI ln_), .int (nI (at_ + 1)), .int (nI 1), .ref (bd 6), .ref (bd 7), .ref (bd 8), .ref (bd 9), .ref (bd 10), .ref (bd 11), .ref (bd 12), .ref (bd 13), .ref (bd 14)])), ((bd 1), .inl (cy 0, 130, .inl (nIf f_))), ((bd 5), .inl (cy 0, 80, .inl (nIf pd_))), ((bd 7), .inl (cy 2, 16, .inl (nBf (uB1 is_ (ltr pd_ ln_ at_ - 48) true))))] H := hP
                  have hD : va_D zA [((bd 0), .inr (5, [.int (nI 0), .ref (bd 1), .ref (bd 2), .int (nI um_), .ref (bd 3), .ref (bd 4), .ref (bd 5), .int (nI ln_), .int (nI (at_ + 1)), .int (nI 1), .ref (bd 6), .ref (bd 7), .ref (bd 8), .ref (bd 9), .ref (bd 10), .ref (bd 11), .ref (bd 12), .ref (bd 13), .ref (bd 14)])), ((bd 1), .inl (cy 0, 130, .inl (nIf f_))), ((bd 5), .inl (cy 0, 80, .inl (nIf pd_))), ((bd 7), .inl (cy 2, 16, .inl (nBf (uB1 is_ (ltr pd_ ln_ at_ - 48) true))))] := hD
                  refine lv_iload_n hx hb dX8_place_168 rfl (lv_at hl 1 rfl) ?_
                  exact kr _ (at_ + 1, true, (uB1 is_ (ltr pd_ ln_ at_ - 48) true)) _ _ _ _ dX8_place_169 (vp_nar_int _) (plR_yes (j := (at_ + 1)) (by omega) hsyJ hAJ c125 (Or.inr c143)) hP hD hS
          · skip
            refine lv_bipush (v := nI 10) hx hb dX8_place_97 (by decide) ?_
            refine lv_iload_n hx hb dX8_place_99 rfl (lv_at hl 0 rfl) ?_
            refine zi_add (v := nI (10 + (ltr pd_ ln_ (at_ + 1) - 48))) hx hb dX8_place_100 (nI_add _ _) ?_
            refine lv_istore_n (lv' := [(1, .int (nI (10 + (ltr pd_ ln_ (at_ + 1) - 48)))), (2, .int (nI (ltr pd_ ln_ (at_ + 1) - 48))), (0, .ref (bd 0))]) hx hb dX8_place_101 rfl hl (by decide) rfl (fun ls hl => ?_)
            refine lv_aload_n hx hb dX8_place_102 rfl (lv_at hl 2 rfl) ?_
            refine lv_dup hx hb dX8_place_103 rfl ?_
            refine va_get (D := D) (ci := 5) (v := .int (nI (at_ + 1))) (C := RX8) (T := TX8) (N := 19) hx hb hts (fun w h => List.mem_cons_of_mem _ (zinX8 w h)) hown hK.1 hP 0 rfl rfl 8 (by decide) (hts _ (List.mem_cons_of_mem _ zw_200)) (fun _ h9 => h9) rfl dX8_place_104 ?_
            refine lv_iconst (v := nI 1) hx hb dX8_place_107 (by decide) ?_
            refine zi_add (v := nI (at_ + 2)) hx hb dX8_place_108 (nI_add _ _) ?_
            refine va_put (D := D) (ci := 5) (v := .int (nI (at_ + 2))) (ty := .int) (C := RX8) (T := TX8) (N := 19) hx hb hts (fun w h => List.mem_cons_of_mem _ (zinX8 w h)) tyX8 tyX8_ok nmX8 hown hK.1 hP hD hS 0 rfl rfl 8 (by decide) (hts _ (List.mem_cons_of_mem _ zw_200)) (fun _ h9 => h9) rfl (tyX8_ok 8 (by decide)) rfl rfl (Nat.le_of_ble_eq_true rfl) dX8_place_109 (fun H locs hP hD hS => ?_)
            have hP : va_P D vwCl [((bd 0), .inr (5, [.int (nI 0), .ref (bd 1), .ref (bd 2), .int (nI um_), .ref (bd 3), .ref (bd 4), .ref (bd 5), .int (nI ln_), .int (nI (at_ + 2)), .int (nI 1), .ref (bd 6), .ref (bd 7), .ref (bd 8), .ref (bd 9), .ref (bd 10), .ref (bd 11), .ref (bd 12), .ref (bd 13), .ref (bd 14)])), ((bd 1), .inl (cy 0, 130, .inl (nIf f_))), ((bd 5), .inl (cy 0, 80, .inl (nIf pd_))), ((bd 7), .inl (cy 2, 16, .inl (nBf is_)))] H := hP
            have hD : va_D zA [((bd 0), .inr (5, [.int (nI 0), .ref (bd 1), .ref (bd 2), .int (nI um_), .ref (bd 3), .ref (bd 4), .ref (bd 5), .int (nI ln_), .int (nI (at_ + 2)), .int (nI 1), .ref (bd 6), .ref (bd 7), .ref (bd 8), .ref (bd 9), .ref (bd 10), .ref (bd 11), .ref (bd 12), .ref (bd 13), .ref (bd 14)])), ((bd 1), .inl (cy 0, 130, .inl (nIf f_))), ((bd 5), .inl (cy 0, 80, .inl (nIf pd_))), ((bd 7), .inl (cy 2, 16, .inl (nBf is_)))] := hD
            have hA1b := hA1
            rw [c83] at hA1b
            obtain ⟨hk2, hsyJ, hAJ⟩ := pl_two hN_ hA1b hsy1 ⟨by omega, by omega, c94⟩
            have hJ2 : 10 ≤ 10 + (ltr pd_ ln_ (at_ + 1) - 48) ∨ ¬ (48 ≤ ltr pd_ ln_ (at_ + 2) ∧ ltr pd_ ln_ (at_ + 2) ≤ 57 ∧ 10 + (ltr pd_ ln_ (at_ + 1) - 48) = 1 ∧ frE (f_ 0) us_ (10 + (ltr pd_ ln_ (at_ + 2) - 48)) = true) := Or.inl (by omega)
            have hjl : at_ + 2 ≤ ln_ := by omega
            have hLJ := ltr_lt hpd (at_ + 2)
            refine lv_aload_n hx hb dX8_place_112 rfl (lv_at hl 2 rfl) ?_
            refine lv_aload_n hx hb dX8_place_113 rfl (lv_at hl 2 rfl) ?_
            refine va_get (D := D) (ci := 5) (v := .int (nI 1)) (C := RX8) (T := TX8) (N := 19) hx hb hts (fun w h => List.mem_cons_of_mem _ (zinX8 w h)) hown hK.1 hP 0 rfl rfl 9 (by decide) (hts _ (List.mem_cons_of_mem _ zw_201)) (fun _ h9 => h9) rfl dX8_place_114 ?_
            refine zb0_eq (a := 1) (tgt := 150) hx hb dX8_place_117 (by decide) (by decide) (fun hd_ => absurd hd_ (by decide)) (fun c117 => ?_)
            refine lv_aload_n hx hb dX8_place_120 rfl (lv_at hl 2 rfl) ?_
            refine lv_iload_n hx hb dX8_place_121 rfl (lv_at hl 0 rfl) ?_
            refine zcRi (As := [.int (nI (10 + (ltr pd_ ln_ (at_ + 1) - 48)))]) (rest := [.ref (bd 0)]) ⟨hx, hb, hml, hown, hts⟩ (c_X8_isLeft l D cy bd um_ ln_ (at_ + 2) true f_ is_ us_ (10 + (ltr pd_ ln_ (at_ + 1) - 48)) (by omega) his (by omega)) (cwV 1 hts (zG_V zw_218 zw_219 zw_220 zw_5 zw_221) rfl rfl rfl zd_X8_isLeft ⟨Nat.le_of_ble_eq_true rfl, Nat.le_of_ble_eq_true rfl⟩) hK hP [0, 1, 3] rfl rfl rfl rfl rfl hl.1 rfl (Nat.le_of_ble_eq_true rfl) dX8_place_122 ⟨Nat.zero_le _, Nat.zero_le _⟩ (fun r122 h122 => ?_)
            subst h122
            refine zq_eq (tgt := 150) hx hb dX8_place_125 (by decide) (fun c125 => ?_) (fun c125 => ?_)
            · skip
              refine lv_iconst (v := nI 0) hx hb dX8_place_150 (by decide) ?_
              refine va_put (D := D) (ci := 5) (v := .int (nI 0)) (ty := .boolean) (C := RX8) (T := TX8) (N := 19) hx hb hts (fun w h => List.mem_cons_of_mem _ (zinX8 w h)) tyX8 tyX8_ok nmX8 hown hK.1 hP hD hS 0 rfl rfl 9 (by decide) (hts _ (List.mem_cons_of_mem _ zw_201)) (fun _ h9 => h9) rfl (tyX8_ok 9 (by decide)) rfl rfl (Nat.le_of_ble_eq_true rfl) dX8_place_151 (fun H locs hP hD hS => ?_)
              have hP : va_P D vwCl [((bd 0), .inr (5, [.int (nI 0), .ref (bd 1), .ref (bd 2), .int (nI um_), .ref (bd 3), .ref (bd 4), .ref (bd 5), .int (nI ln_), .int (nI (at_ + 2)), .int (nI 0), .ref (bd 6), .ref (bd 7), .ref (bd 8), .ref (bd 9), .ref (bd 10), .ref (bd 11), .ref (bd 12), .ref (bd 13), .ref (bd 14)])), ((bd 1), .inl (cy 0, 130, .inl (nIf f_))), ((bd 5), .inl (cy 0, 80, .inl (nIf pd_))), ((bd 7), .inl (cy 2, 16, .inl (nBf is_)))] H := hP
              have hD : va_D zA [((bd 0), .inr (5, [.int (nI 0), .ref (bd 1), .ref (bd 2), .int (nI um_), .ref (bd 3), .ref (bd 4), .ref (bd 5), .int (nI ln_), .int (nI (at_ + 2)), .int (nI 0), .ref (bd 6), .ref (bd 7), .ref (bd 8), .ref (bd 9), .ref (bd 10), .ref (bd 11), .ref (bd 12), .ref (bd 13), .ref (bd 14)])), ((bd 1), .inl (cy 0, 130, .inl (nIf f_))), ((bd 5), .inl (cy 0, 80, .inl (nIf pd_))), ((bd 7), .inl (cy 2, 16, .inl (nBf is_)))] := hD
              refine lv_aload_n hx hb dX8_place_154 rfl (lv_at hl 2 rfl) ?_
              refine va_get (D := D) (ci := 5) (v := .int (nI 0)) (C := RX8) (T := TX8) (N := 19) hx hb hts (fun w h => List.mem_cons_of_mem _ (zinX8 w h)) hown hK.1 hP 0 rfl rfl 9 (by decide) (hts _ (List.mem_cons_of_mem _ zw_201)) (fun _ h9 => h9) rfl dX8_place_155 ?_
              refine zb0_eq (a := 0) (tgt := 168) hx hb dX8_place_158 (by decide) (by decide) (fun c158 => ?_) (fun hd_ => absurd hd_ (by decide))
              refine lv_iload_n hx hb dX8_place_168 rfl (lv_at hl 0 rfl) ?_
              exact kr _ (at_ + 2, false, is_) _ _ _ _ dX8_place_169 (vp_nar_int _) (plR_no (j := (at_ + 2)) (by omega) (by omega) (pl_bad2 hN_ hjl hAJ hsyJ hJ2 (fun q_ => c125 q_.1))) hP hD hS
            · skip
              refine lv_aload_n hx hb dX8_place_128 rfl (lv_at hl 2 rfl) ?_
              refine zcRi (As := []) (rest := [.ref (bd 0)]) ⟨hx, hb, hml, hown, hts⟩ (c_X8_letter l D cy bd um_ ln_ (at_ + 2) true pd_ (by omega) hpd (by omega)) (cwV 0 hts (zG_V zw_202 zw_203 zw_204 zw_5 zw_205) rfl rfl rfl zd_X8_letter ⟨Nat.le_of_ble_eq_true rfl, Nat.le_of_ble_eq_true rfl⟩) hK hP [0, 2] rfl rfl rfl rfl rfl hl.1 rfl (Nat.le_of_ble_eq_true rfl) dX8_place_129 ⟨Nat.zero_le _, Nat.zero_le _⟩ (fun r129 h129 => ?_)
              subst h129
              refine lv_bipush (v := nI 44) hx hb dX8_place_132 (by decide) ?_
              refine zb_eq (a := ltr pd_ ln_ (at_ + 2)) (b := 44) (tgt := 146) hx hb dX8_place_134 (by decide) (by omega) (by omega) (fun c134 => ?_) (fun c134 => ?_)
              · skip
                refine lv_iconst (v := nI 1) hx hb dX8_place_146 (by decide) ?_
                refine lv_goto (tgt := 151) hx hb dX8_place_147 (by decide) ?_
                refine va_put (D := D) (ci := 5) (v := .int (nI 1)) (ty := .boolean) (C := RX8) (T := TX8) (N := 19) hx hb hts (fun w h => List.mem_cons_of_mem _ (zinX8 w h)) tyX8 tyX8_ok nmX8 hown hK.1 hP hD hS 0 rfl rfl 9 (by decide) (hts _ (List.mem_cons_of_mem _ zw_201)) (fun _ h9 => h9) rfl (tyX8_ok 9 (by decide)) rfl rfl (Nat.le_of_ble_eq_true rfl) dX8_place_151 (fun H locs hP hD hS => ?_)
                have hP : va_P D vwCl [((bd 0), .inr (5, [.int (nI 0), .ref (bd 1), .ref (bd 2), .int (nI um_), .ref (bd 3), .ref (bd 4), .ref (bd 5), .int (nI ln_), .int (nI (at_ + 2)), .int (nI 1), .ref (bd 6), .ref (bd 7), .ref (bd 8), .ref (bd 9), .ref (bd 10), .ref (bd 11), .ref (bd 12), .ref (bd 13), .ref (bd 14)])), ((bd 1), .inl (cy 0, 130, .inl (nIf f_))), ((bd 5), .inl (cy 0, 80, .inl (nIf pd_))), ((bd 7), .inl (cy 2, 16, .inl (nBf is_)))] H := hP
                have hD : va_D zA [((bd 0), .inr (5, [.int (nI 0), .ref (bd 1), .ref (bd 2), .int (nI um_), .ref (bd 3), .ref (bd 4), .ref (bd 5), .int (nI ln_), .int (nI (at_ + 2)), .int (nI 1), .ref (bd 6), .ref (bd 7), .ref (bd 8), .ref (bd 9), .ref (bd 10), .ref (bd 11), .ref (bd 12), .ref (bd 13), .ref (bd 14)])), ((bd 1), .inl (cy 0, 130, .inl (nIf f_))), ((bd 5), .inl (cy 0, 80, .inl (nIf pd_))), ((bd 7), .inl (cy 2, 16, .inl (nBf is_)))] := hD
                refine lv_aload_n hx hb dX8_place_154 rfl (lv_at hl 2 rfl) ?_
                refine va_get (D := D) (ci := 5) (v := .int (nI 1)) (C := RX8) (T := TX8) (N := 19) hx hb hts (fun w h => List.mem_cons_of_mem _ (zinX8 w h)) hown hK.1 hP 0 rfl rfl 9 (by decide) (hts _ (List.mem_cons_of_mem _ zw_201)) (fun _ h9 => h9) rfl dX8_place_155 ?_
                refine zb0_eq (a := 1) (tgt := 168) hx hb dX8_place_158 (by decide) (by decide) (fun hd_ => absurd hd_ (by decide)) (fun c158 => ?_)
                have hf161 := frE_lt c125
                refine lv_aload_n hx hb dX8_place_161 rfl (lv_at hl 2 rfl) ?_
                refine va_get (D := D) (ci := 5) (v := .ref (bd 7)) (C := RX8) (T := TX8) (N := 19) hx hb hts (fun w h => List.mem_cons_of_mem _ (zinX8 w h)) hown hK.1 hP 0 rfl rfl 11 (by decide) (hts _ (List.mem_cons_of_mem _ zw_80)) (fun _ h9 => h9) rfl dX8_place_162 ?_
                refine lv_iload_n hx hb dX8_place_165 rfl (lv_at hl 0 rfl) ?_
                refine lv_iconst (v := nI 1) hx hb dX8_place_166 (by decide) ?_
                refine zi_zast hx hb hK hP hD hS 3 rfl (by omega) (by omega) rfl dX8_place_167 (fun H locs hP hD hS => ?_)
                rw [upd_nB1] at hP hD
                have hP : va_P D vwCl [((bd 0), .inr (5, [.int (nI 0), .ref (bd 1), .ref (bd 2), .int (nI um_), .ref (bd 3), .ref (bd 4), .ref (bd 5), .int (nI ln_), .int (nI (at_ + 2)), .int (nI 1), .ref (bd 6), .ref (bd 7), .ref (bd 8), .ref (bd 9), .ref (bd 10), .ref (bd 11), .ref (bd 12), .ref (bd 13), .ref (bd 14)])), ((bd 1), .inl (cy 0, 130, .inl (nIf f_))), ((bd 5), .inl (cy 0, 80, .inl (nIf pd_))), ((bd 7), .inl (cy 2, 16, .inl (nBf (uB1 is_ (10 + (ltr pd_ ln_ (at_ + 1) - 48)) true))))] H := hP
                have hD : va_D zA [((bd 0), .inr (5, [.int (nI 0), .ref (bd 1), .ref (bd 2), .int (nI um_), .ref (bd 3), .ref (bd 4), .ref (bd 5), .int (nI ln_), .int (nI (at_ + 2)), .int (nI 1), .ref (bd 6), .ref (bd 7), .ref (bd 8), .ref (bd 9), .ref (bd 10), .ref (bd 11), .ref (bd 12), .ref (bd 13), .ref (bd 14)])), ((bd 1), .inl (cy 0, 130, .inl (nIf f_))), ((bd 5), .inl (cy 0, 80, .inl (nIf pd_))), ((bd 7), .inl (cy 2, 16, .inl (nBf (uB1 is_ (10 + (ltr pd_ ln_ (at_ + 1) - 48)) true))))] := hD
                refine lv_iload_n hx hb dX8_place_168 rfl (lv_at hl 0 rfl) ?_
                exact kr _ (at_ + 2, true, (uB1 is_ (10 + (ltr pd_ ln_ (at_ + 1) - 48)) true)) _ _ _ _ dX8_place_169 (vp_nar_int _) (plR_yes (j := (at_ + 2)) (by omega) hsyJ hAJ c125 (Or.inl c134)) hP hD hS
              · skip
                refine lv_aload_n hx hb dX8_place_137 rfl (lv_at hl 2 rfl) ?_
                refine zcRi (As := []) (rest := [.ref (bd 0)]) ⟨hx, hb, hml, hown, hts⟩ (c_X8_letter l D cy bd um_ ln_ (at_ + 2) true pd_ (by omega) hpd (by omega)) (cwV 0 hts (zG_V zw_202 zw_203 zw_204 zw_5 zw_205) rfl rfl rfl zd_X8_letter ⟨Nat.le_of_ble_eq_true rfl, Nat.le_of_ble_eq_true rfl⟩) hK hP [0, 2] rfl rfl rfl rfl rfl hl.1 rfl (Nat.le_of_ble_eq_true rfl) dX8_place_138 ⟨Nat.zero_le _, Nat.zero_le _⟩ (fun r138 h138 => ?_)
                subst h138
                refine lv_bipush (v := nI 41) hx hb dX8_place_141 (by decide) ?_
                refine zb_ne (a := ltr pd_ ln_ (at_ + 2)) (b := 41) (tgt := 150) hx hb dX8_place_143 (by decide) (by omega) (by omega) (fun c143 => ?_) (fun c143 => ?_)
                · skip
                  refine lv_iconst (v := nI 0) hx hb dX8_place_150 (by decide) ?_
                  refine va_put (D := D) (ci := 5) (v := .int (nI 0)) (ty := .boolean) (C := RX8) (T := TX8) (N := 19) hx hb hts (fun w h => List.mem_cons_of_mem _ (zinX8 w h)) tyX8 tyX8_ok nmX8 hown hK.1 hP hD hS 0 rfl rfl 9 (by decide) (hts _ (List.mem_cons_of_mem _ zw_201)) (fun _ h9 => h9) rfl (tyX8_ok 9 (by decide)) rfl rfl (Nat.le_of_ble_eq_true rfl) dX8_place_151 (fun H locs hP hD hS => ?_)
                  have hP : va_P D vwCl [((bd 0), .inr (5, [.int (nI 0), .ref (bd 1), .ref (bd 2), .int (nI um_), .ref (bd 3), .ref (bd 4), .ref (bd 5), .int (nI ln_), .int (nI (at_ + 2)), .int (nI 0), .ref (bd 6), .ref (bd 7), .ref (bd 8), .ref (bd 9), .ref (bd 10), .ref (bd 11), .ref (bd 12), .ref (bd 13), .ref (bd 14)])), ((bd 1), .inl (cy 0, 130, .inl (nIf f_))), ((bd 5), .inl (cy 0, 80, .inl (nIf pd_))), ((bd 7), .inl (cy 2, 16, .inl (nBf is_)))] H := hP
                  have hD : va_D zA [((bd 0), .inr (5, [.int (nI 0), .ref (bd 1), .ref (bd 2), .int (nI um_), .ref (bd 3), .ref (bd 4), .ref (bd 5), .int (nI ln_), .int (nI (at_ + 2)), .int (nI 0), .ref (bd 6), .ref (bd 7), .ref (bd 8), .ref (bd 9), .ref (bd 10), .ref (bd 11), .ref (bd 12), .ref (bd 13), .ref (bd 14)])), ((bd 1), .inl (cy 0, 130, .inl (nIf f_))), ((bd 5), .inl (cy 0, 80, .inl (nIf pd_))), ((bd 7), .inl (cy 2, 16, .inl (nBf is_)))] := hD
                  refine lv_aload_n hx hb dX8_place_154 rfl (lv_at hl 2 rfl) ?_
                  refine va_get (D := D) (ci := 5) (v := .int (nI 0)) (C := RX8) (T := TX8) (N := 19) hx hb hts (fun w h => List.mem_cons_of_mem _ (zinX8 w h)) hown hK.1 hP 0 rfl rfl 9 (by decide) (hts _ (List.mem_cons_of_mem _ zw_201)) (fun _ h9 => h9) rfl dX8_place_155 ?_
                  refine zb0_eq (a := 0) (tgt := 168) hx hb dX8_place_158 (by decide) (by decide) (fun c158 => ?_) (fun hd_ => absurd hd_ (by decide))
                  refine lv_iload_n hx hb dX8_place_168 rfl (lv_at hl 0 rfl) ?_
                  exact kr _ (at_ + 2, false, is_) _ _ _ _ dX8_place_169 (vp_nar_int _) (plR_no (j := (at_ + 2)) (by omega) (by omega) (pl_bad2 hN_ hjl hAJ hsyJ hJ2 (fun q_ => q_.2.elim c134 c143))) hP hD hS
                · skip
                  refine lv_iconst (v := nI 1) hx hb dX8_place_146 (by decide) ?_
                  refine lv_goto (tgt := 151) hx hb dX8_place_147 (by decide) ?_
                  refine va_put (D := D) (ci := 5) (v := .int (nI 1)) (ty := .boolean) (C := RX8) (T := TX8) (N := 19) hx hb hts (fun w h => List.mem_cons_of_mem _ (zinX8 w h)) tyX8 tyX8_ok nmX8 hown hK.1 hP hD hS 0 rfl rfl 9 (by decide) (hts _ (List.mem_cons_of_mem _ zw_201)) (fun _ h9 => h9) rfl (tyX8_ok 9 (by decide)) rfl rfl (Nat.le_of_ble_eq_true rfl) dX8_place_151 (fun H locs hP hD hS => ?_)
                  have hP : va_P D vwCl [((bd 0), .inr (5, [.int (nI 0), .ref (bd 1), .ref (bd 2), .int (nI um_), .ref (bd 3), .ref (bd 4), .ref (bd 5), .int (nI ln_), .int (nI (at_ + 2)), .int (nI 1), .ref (bd 6), .ref (bd 7), .ref (bd 8), .ref (bd 9), .ref (bd 10), .ref (bd 11), .ref (bd 12), .ref (bd 13), .ref (bd 14)])), ((bd 1), .inl (cy 0, 130, .inl (nIf f_))), ((bd 5), .inl (cy 0, 80, .inl (nIf pd_))), ((bd 7), .inl (cy 2, 16, .inl (nBf is_)))] H := hP
                  have hD : va_D zA [((bd 0), .inr (5, [.int (nI 0), .ref (bd 1), .ref (bd 2), .int (nI um_), .ref (bd 3), .ref (bd 4), .ref (bd 5), .int (nI ln_), .int (nI (at_ + 2)), .int (nI 1), .ref (bd 6), .ref (bd 7), .ref (bd 8), .ref (bd 9), .ref (bd 10), .ref (bd 11), .ref (bd 12), .ref (bd 13), .ref (bd 14)])), ((bd 1), .inl (cy 0, 130, .inl (nIf f_))), ((bd 5), .inl (cy 0, 80, .inl (nIf pd_))), ((bd 7), .inl (cy 2, 16, .inl (nBf is_)))] := hD
                  refine lv_aload_n hx hb dX8_place_154 rfl (lv_at hl 2 rfl) ?_
                  refine va_get (D := D) (ci := 5) (v := .int (nI 1)) (C := RX8) (T := TX8) (N := 19) hx hb hts (fun w h => List.mem_cons_of_mem _ (zinX8 w h)) hown hK.1 hP 0 rfl rfl 9 (by decide) (hts _ (List.mem_cons_of_mem _ zw_201)) (fun _ h9 => h9) rfl dX8_place_155 ?_
                  refine zb0_eq (a := 1) (tgt := 168) hx hb dX8_place_158 (by decide) (by decide) (fun hd_ => absurd hd_ (by decide)) (fun c158 => ?_)
                  have hf161 := frE_lt c125
                  refine lv_aload_n hx hb dX8_place_161 rfl (lv_at hl 2 rfl) ?_
                  refine va_get (D := D) (ci := 5) (v := .ref (bd 7)) (C := RX8) (T := TX8) (N := 19) hx hb hts (fun w h => List.mem_cons_of_mem _ (zinX8 w h)) hown hK.1 hP 0 rfl rfl 11 (by decide) (hts _ (List.mem_cons_of_mem _ zw_80)) (fun _ h9 => h9) rfl dX8_place_162 ?_
                  refine lv_iload_n hx hb dX8_place_165 rfl (lv_at hl 0 rfl) ?_
                  refine lv_iconst (v := nI 1) hx hb dX8_place_166 (by decide) ?_
                  refine zi_zast hx hb hK hP hD hS 3 rfl (by omega) (by omega) rfl dX8_place_167 (fun H locs hP hD hS => ?_)
                  rw [upd_nB1] at hP hD
                  have hP : va_P D vwCl [((bd 0), .inr (5, [.int (nI 0), .ref (bd 1), .ref (bd 2), .int (nI um_), .ref (bd 3), .ref (bd 4), .ref (bd 5), .int (nI ln_), .int (nI (at_ + 2)), .int (nI 1), .ref (bd 6), .ref (bd 7), .ref (bd 8), .ref (bd 9), .ref (bd 10), .ref (bd 11), .ref (bd 12), .ref (bd 13), .ref (bd 14)])), ((bd 1), .inl (cy 0, 130, .inl (nIf f_))), ((bd 5), .inl (cy 0, 80, .inl (nIf pd_))), ((bd 7), .inl (cy 2, 16, .inl (nBf (uB1 is_ (10 + (ltr pd_ ln_ (at_ + 1) - 48)) true))))] H := hP
                  have hD : va_D zA [((bd 0), .inr (5, [.int (nI 0), .ref (bd 1), .ref (bd 2), .int (nI um_), .ref (bd 3), .ref (bd 4), .ref (bd 5), .int (nI ln_), .int (nI (at_ + 2)), .int (nI 1), .ref (bd 6), .ref (bd 7), .ref (bd 8), .ref (bd 9), .ref (bd 10), .ref (bd 11), .ref (bd 12), .ref (bd 13), .ref (bd 14)])), ((bd 1), .inl (cy 0, 130, .inl (nIf f_))), ((bd 5), .inl (cy 0, 80, .inl (nIf pd_))), ((bd 7), .inl (cy 2, 16, .inl (nBf (uB1 is_ (10 + (ltr pd_ ln_ (at_ + 1) - 48)) true))))] := hD
                  refine lv_iload_n hx hb dX8_place_168 rfl (lv_at hl 0 rfl) ?_
                  exact kr _ (at_ + 2, true, (uB1 is_ (10 + (ltr pd_ ln_ (at_ + 1) - 48)) true)) _ _ _ _ dX8_place_169 (vp_nar_int _) (plR_yes (j := (at_ + 2)) (by omega) hsyJ hAJ c125 (Or.inr c143)) hP hD hS
abbrev w_X8_readsCycle : List Cond := Cond.code yX8_readsCycle cX8_readsCycle 4 none :: zAll
abbrev r_X8_readsCycle : Room := { frames := 5, cells := 0, slots := 0, locals := 109 }
theorem zd_X8_readsCycle : yX8_readsCycle.cls = RX8 ∧ yX8_readsCycle.cls ≠ "java/lang/invoke/MethodHandle" ∧ yX8_readsCycle.cls ≠ "java/lang/invoke/VarHandle" ∧ (parseMethodDescriptor yX8_readsCycle.desc).map (fun d => d.parameters.length) = some 0 := by decide +kernel
set_option maxHeartbeats 4000000 in
set_option maxRecDepth 100000 in
theorem c_X8_readsCycle (l : Launch) (D : va_G) (cy : Nat → ClassId) (sz : Nat) (bd : Nat → Nat) (um_ : Nat) (ln_ : Nat) (at_ : Nat) (iw_ : Bool) (f_ : Nat → Nat) (pd_ : Nat → Nat) (is_ : Nat → Bool) (us_ : Nat) (tl_ : Nat → Nat) (z0_ : RS) (mv_ : Int64) (st_ : Nat) (dg_ : Nat) (ic_ : Nat) (fi_ : Nat) (la_ : Nat) (hN_ : f_ 0 ≤ 16) (hp : ln_ ≤ 80) (hpd : ∀ q_, q_ < ln_ → 33 ≤ pd_ q_ ∧ pd_ q_ ≤ 126) (hat : at_ ≤ ln_) (his : ∀ q_, q_ < 16 → is_ q_ = us_.testBit q_) (hAs : rsAt (f_ 0) pd_ z0_ at_ = (st_, mv_, us_, dg_, ic_, fi_, la_)) (hsy : Syn (f_ 0) pd_ z0_ at_) (hst : (st_ = 0 ∧ ltr pd_ ln_ at_ ≠ 101) ∨ (st_ = 4 ∧ at_ < ln_)) (htl : ∀ q_, q_ < 16 → tl_ q_ = nb mv_ q_) : zWv l yX8_readsCycle w_X8_readsCycle r_X8_readsCycle D cy [((bd 0), .inr (5, [.int (nI 0), .ref (bd 1), .ref (bd 2), .int (nI um_), .ref (bd 3), .ref (bd 4), .ref (bd 5), .int (nI ln_), .int (nI at_), .int (if iw_ = true then 1 else 0), .ref (bd 6), .ref (bd 7), .ref (bd 8), .ref (bd 9), .ref (bd 10), .ref (bd 11), .ref (bd 12), .ref (bd 13), .ref (bd 14)])), ((bd 1), .inl (cy 0, 130, .inl (nIf f_))), ((bd 5), .inl (cy 0, 80, .inl (nIf pd_))), ((bd 6), .inl (cy 0, 16, .inl (nIf tl_))), ((bd 7), .inl (cy 2, 16, .inl (nBf is_)))] sz [.ref (bd 0)] (fun u : Nat × Bool × (Nat → Bool) × (Nat → Nat) => CycR (f_ 0) pd_ z0_ ln_ at_ u.1 u.2.1 u.2.2.1 u.2.2.2) (fun u : Nat × Bool × (Nat → Bool) × (Nat → Nat) => ([((bd 0), .inr (5, [.int (nI 0), .ref (bd 1), .ref (bd 2), .int (nI um_), .ref (bd 3), .ref (bd 4), .ref (bd 5), .int (nI ln_), .int (nI u.1), .int (if u.2.1 = true then 1 else 0), .ref (bd 6), .ref (bd 7), .ref (bd 8), .ref (bd 9), .ref (bd 10), .ref (bd 11), .ref (bd 12), .ref (bd 13), .ref (bd 14)])), ((bd 1), .inl (cy 0, 130, .inl (nIf f_))), ((bd 5), .inl (cy 0, 80, .inl (nIf pd_))), ((bd 6), .inl (cy 0, 16, .inl (nIf u.2.2.2))), ((bd 7), .inl (cy 2, 16, .inl (nBf u.2.2.1)))] : va_W)) 0 0 := by
  refine zOfV (cc := cX8_readsCycle) (maxL := 4) (by decide) rfl (Nat.le_of_ble_eq_true rfl) ?_
  intro zp ze zs zm za zb zme zc hx hb hml hts hown hP hK zA hD hA Q kr ls hl hin
  have hS : va_S zA zs.heap zs.heap [] := va_S.rf
  have hown : zs.vm.findClass RX8 = some zm.cls := hown
  have hl : lv_has ls 4 [(0, .ref (bd 0))] := hl
  refine lv_aload_n hx hb dX8_readsCycle_0 rfl (lv_at hl 0 rfl) ?_
  refine lv_aload_n hx hb dX8_readsCycle_1 rfl (lv_at hl 0 rfl) ?_
  refine zcRi (As := []) (rest := [.ref (bd 0)]) ⟨hx, hb, hml, hown, hts⟩ (c_X8_letter l D cy bd um_ ln_ at_ iw_ pd_ (by omega) hpd (by omega)) (cwV 0 hts (zG_V zw_202 zw_203 zw_204 zw_5 zw_205) rfl rfl rfl zd_X8_letter ⟨Nat.le_of_ble_eq_true rfl, Nat.le_of_ble_eq_true rfl⟩) hK hP [0, 2] rfl rfl rfl rfl rfl hl.1 rfl (Nat.le_of_ble_eq_true rfl) dX8_readsCycle_2 ⟨Nat.zero_le _, Nat.zero_le _⟩ (fun r2 h2 => ?_)
  subst h2
  have hL5 := ltr_lt hpd at_
  refine lv_bipush (v := nI 40) hx hb dX8_readsCycle_5 (by decide) ?_
  refine zb_ne (a := ltr pd_ ln_ at_) (b := 40) (tgt := 14) hx hb dX8_readsCycle_7 (by decide) (by omega) (by omega) (fun c7 => ?_) (fun c7 => ?_)
  · skip
    refine lv_iconst (v := nI 0) hx hb dX8_readsCycle_14 (by decide) ?_
    refine va_put (D := D) (ci := 5) (v := .int (nI 0)) (ty := .boolean) (C := RX8) (T := TX8) (N := 19) hx hb hts (fun w h => List.mem_cons_of_mem _ (zinX8 w h)) tyX8 tyX8_ok nmX8 hown hK.1 hP hD hS 0 rfl rfl 9 (by decide) (hts _ (List.mem_cons_of_mem _ zw_201)) (fun _ h9 => h9) rfl (tyX8_ok 9 (by decide)) rfl rfl (Nat.le_of_ble_eq_true rfl) dX8_readsCycle_15 (fun H locs hP hD hS => ?_)
    have hP : va_P D vwCl [((bd 0), .inr (5, [.int (nI 0), .ref (bd 1), .ref (bd 2), .int (nI um_), .ref (bd 3), .ref (bd 4), .ref (bd 5), .int (nI ln_), .int (nI at_), .int (nI 0), .ref (bd 6), .ref (bd 7), .ref (bd 8), .ref (bd 9), .ref (bd 10), .ref (bd 11), .ref (bd 12), .ref (bd 13), .ref (bd 14)])), ((bd 1), .inl (cy 0, 130, .inl (nIf f_))), ((bd 5), .inl (cy 0, 80, .inl (nIf pd_))), ((bd 6), .inl (cy 0, 16, .inl (nIf tl_))), ((bd 7), .inl (cy 2, 16, .inl (nBf is_)))] H := hP
    have hD : va_D zA [((bd 0), .inr (5, [.int (nI 0), .ref (bd 1), .ref (bd 2), .int (nI um_), .ref (bd 3), .ref (bd 4), .ref (bd 5), .int (nI ln_), .int (nI at_), .int (nI 0), .ref (bd 6), .ref (bd 7), .ref (bd 8), .ref (bd 9), .ref (bd 10), .ref (bd 11), .ref (bd 12), .ref (bd 13), .ref (bd 14)])), ((bd 1), .inl (cy 0, 130, .inl (nIf f_))), ((bd 5), .inl (cy 0, 80, .inl (nIf pd_))), ((bd 6), .inl (cy 0, 16, .inl (nIf tl_))), ((bd 7), .inl (cy 2, 16, .inl (nBf is_)))] := hD
    refine lv_aload_n hx hb dX8_readsCycle_18 rfl (lv_at hl 0 rfl) ?_
    refine lv_dup hx hb dX8_readsCycle_19 rfl ?_
    refine va_get (D := D) (ci := 5) (v := .int (nI at_)) (C := RX8) (T := TX8) (N := 19) hx hb hts (fun w h => List.mem_cons_of_mem _ (zinX8 w h)) hown hK.1 hP 0 rfl rfl 8 (by decide) (hts _ (List.mem_cons_of_mem _ zw_200)) (fun _ h9 => h9) rfl dX8_readsCycle_20 ?_
    refine lv_aload_n hx hb dX8_readsCycle_23 rfl (lv_at hl 0 rfl) ?_
    refine va_get (D := D) (ci := 5) (v := .int (nI 0)) (C := RX8) (T := TX8) (N := 19) hx hb hts (fun w h => List.mem_cons_of_mem _ (zinX8 w h)) hown hK.1 hP 0 rfl rfl 9 (by decide) (hts _ (List.mem_cons_of_mem _ zw_201)) (fun _ h9 => h9) rfl dX8_readsCycle_24 ?_
    refine zb0_eq (a := 0) (tgt := 34) hx hb dX8_readsCycle_27 (by decide) (by decide) (fun c27 => ?_) (fun hd_ => absurd hd_ (by decide))
    refine lv_iconst (v := nI 0) hx hb dX8_readsCycle_34 (by decide) ?_
    refine zi_add (v := nI at_) hx hb dX8_readsCycle_35 (nI_add _ _) ?_
    refine va_put (D := D) (ci := 5) (v := .int (nI at_)) (ty := .int) (C := RX8) (T := TX8) (N := 19) hx hb hts (fun w h => List.mem_cons_of_mem _ (zinX8 w h)) tyX8 tyX8_ok nmX8 hown hK.1 hP hD hS 0 rfl rfl 8 (by decide) (hts _ (List.mem_cons_of_mem _ zw_200)) (fun _ h9 => h9) rfl (tyX8_ok 8 (by decide)) rfl rfl (Nat.le_of_ble_eq_true rfl) dX8_readsCycle_36 (fun H locs hP hD hS => ?_)
    have hP : va_P D vwCl [((bd 0), .inr (5, [.int (nI 0), .ref (bd 1), .ref (bd 2), .int (nI um_), .ref (bd 3), .ref (bd 4), .ref (bd 5), .int (nI ln_), .int (nI at_), .int (nI 0), .ref (bd 6), .ref (bd 7), .ref (bd 8), .ref (bd 9), .ref (bd 10), .ref (bd 11), .ref (bd 12), .ref (bd 13), .ref (bd 14)])), ((bd 1), .inl (cy 0, 130, .inl (nIf f_))), ((bd 5), .inl (cy 0, 80, .inl (nIf pd_))), ((bd 6), .inl (cy 0, 16, .inl (nIf tl_))), ((bd 7), .inl (cy 2, 16, .inl (nBf is_)))] H := hP
    have hD : va_D zA [((bd 0), .inr (5, [.int (nI 0), .ref (bd 1), .ref (bd 2), .int (nI um_), .ref (bd 3), .ref (bd 4), .ref (bd 5), .int (nI ln_), .int (nI at_), .int (nI 0), .ref (bd 6), .ref (bd 7), .ref (bd 8), .ref (bd 9), .ref (bd 10), .ref (bd 11), .ref (bd 12), .ref (bd 13), .ref (bd 14)])), ((bd 1), .inl (cy 0, 130, .inl (nIf f_))), ((bd 5), .inl (cy 0, 80, .inl (nIf pd_))), ((bd 6), .inl (cy 0, 16, .inl (nIf tl_))), ((bd 7), .inl (cy 2, 16, .inl (nBf is_)))] := hD
    refine lv_aload_n hx hb dX8_readsCycle_39 rfl (lv_at hl 0 rfl) ?_
    refine va_get (D := D) (ci := 5) (v := .int (nI 0)) (C := RX8) (T := TX8) (N := 19) hx hb hts (fun w h => List.mem_cons_of_mem _ (zinX8 w h)) hown hK.1 hP 0 rfl rfl 9 (by decide) (hts _ (List.mem_cons_of_mem _ zw_201)) (fun _ h9 => h9) rfl dX8_readsCycle_40 ?_
    refine zb0_eq (a := 0) (tgt := 53) hx hb dX8_readsCycle_43 (by decide) (by decide) (fun c43 => ?_) (fun hd_ => absurd hd_ (by decide))
    refine lv_iconst (v := nI 0) hx hb dX8_readsCycle_53 (by decide) ?_
    refine lv_istore_n (lv' := [(1, .int (nI 0)), (0, .ref (bd 0))]) hx hb dX8_readsCycle_54 rfl hl (by decide) rfl (fun ls hl => ?_)
    refine lv_aload_n hx hb dX8_readsCycle_55 rfl (lv_at hl 1 rfl) ?_
    refine lv_aload_n hx hb dX8_readsCycle_56 rfl (lv_at hl 1 rfl) ?_
    refine va_get (D := D) (ci := 5) (v := .int (nI 0)) (C := RX8) (T := TX8) (N := 19) hx hb hts (fun w h => List.mem_cons_of_mem _ (zinX8 w h)) hown hK.1 hP 0 rfl rfl 9 (by decide) (hts _ (List.mem_cons_of_mem _ zw_201)) (fun _ h9 => h9) rfl dX8_readsCycle_57 ?_
    refine zb0_eq (a := 0) (tgt := 76) hx hb dX8_readsCycle_60 (by decide) (by decide) (fun c60 => ?_) (fun hd_ => absurd hd_ (by decide))
    refine lv_iconst (v := nI 0) hx hb dX8_readsCycle_76 (by decide) ?_
    refine va_put (D := D) (ci := 5) (v := .int (nI 0)) (ty := .boolean) (C := RX8) (T := TX8) (N := 19) hx hb hts (fun w h => List.mem_cons_of_mem _ (zinX8 w h)) tyX8 tyX8_ok nmX8 hown hK.1 hP hD hS 0 rfl rfl 9 (by decide) (hts _ (List.mem_cons_of_mem _ zw_201)) (fun _ h9 => h9) rfl (tyX8_ok 9 (by decide)) rfl rfl (Nat.le_of_ble_eq_true rfl) dX8_readsCycle_77 (fun H locs hP hD hS => ?_)
    have hP : va_P D vwCl [((bd 0), .inr (5, [.int (nI 0), .ref (bd 1), .ref (bd 2), .int (nI um_), .ref (bd 3), .ref (bd 4), .ref (bd 5), .int (nI ln_), .int (nI at_), .int (nI 0), .ref (bd 6), .ref (bd 7), .ref (bd 8), .ref (bd 9), .ref (bd 10), .ref (bd 11), .ref (bd 12), .ref (bd 13), .ref (bd 14)])), ((bd 1), .inl (cy 0, 130, .inl (nIf f_))), ((bd 5), .inl (cy 0, 80, .inl (nIf pd_))), ((bd 6), .inl (cy 0, 16, .inl (nIf tl_))), ((bd 7), .inl (cy 2, 16, .inl (nBf is_)))] H := hP
    have hD : va_D zA [((bd 0), .inr (5, [.int (nI 0), .ref (bd 1), .ref (bd 2), .int (nI um_), .ref (bd 3), .ref (bd 4), .ref (bd 5), .int (nI ln_), .int (nI at_), .int (nI 0), .ref (bd 6), .ref (bd 7), .ref (bd 8), .ref (bd 9), .ref (bd 10), .ref (bd 11), .ref (bd 12), .ref (bd 13), .ref (bd 14)])), ((bd 1), .inl (cy 0, 130, .inl (nIf f_))), ((bd 5), .inl (cy 0, 80, .inl (nIf pd_))), ((bd 6), .inl (cy 0, 16, .inl (nIf tl_))), ((bd 7), .inl (cy 2, 16, .inl (nBf is_)))] := hD
    refine lv_aload_n hx hb dX8_readsCycle_80 rfl (lv_at hl 1 rfl) ?_
    refine va_get (D := D) (ci := 5) (v := .int (nI 0)) (C := RX8) (T := TX8) (N := 19) hx hb hts (fun w h => List.mem_cons_of_mem _ (zinX8 w h)) hown hK.1 hP 0 rfl rfl 9 (by decide) (hts _ (List.mem_cons_of_mem _ zw_201)) (fun _ h9 => h9) rfl dX8_readsCycle_81 ?_
    refine zb0_ne (a := 0) (tgt := 88) hx hb dX8_readsCycle_84 (by decide) (by decide) (fun hd_ => absurd hd_ (by decide)) (fun c84 => ?_)
    exact kr (at_, false, is_, tl_) _ _ _ _ dX8_readsCycle_87 (cyR_no (j := at_) (by omega) (by omega) (cy_none hat hAs hsy hst c7)) hP hD hS
  · skip
    obtain ⟨hk1, hsy1, hA1⟩ := cy_open hAs hsy hst c7
    refine lv_iconst (v := nI 1) hx hb dX8_readsCycle_10 (by decide) ?_
    refine lv_goto (tgt := 15) hx hb dX8_readsCycle_11 (by decide) ?_
    refine va_put (D := D) (ci := 5) (v := .int (nI 1)) (ty := .boolean) (C := RX8) (T := TX8) (N := 19) hx hb hts (fun w h => List.mem_cons_of_mem _ (zinX8 w h)) tyX8 tyX8_ok nmX8 hown hK.1 hP hD hS 0 rfl rfl 9 (by decide) (hts _ (List.mem_cons_of_mem _ zw_201)) (fun _ h9 => h9) rfl (tyX8_ok 9 (by decide)) rfl rfl (Nat.le_of_ble_eq_true rfl) dX8_readsCycle_15 (fun H locs hP hD hS => ?_)
    have hP : va_P D vwCl [((bd 0), .inr (5, [.int (nI 0), .ref (bd 1), .ref (bd 2), .int (nI um_), .ref (bd 3), .ref (bd 4), .ref (bd 5), .int (nI ln_), .int (nI at_), .int (nI 1), .ref (bd 6), .ref (bd 7), .ref (bd 8), .ref (bd 9), .ref (bd 10), .ref (bd 11), .ref (bd 12), .ref (bd 13), .ref (bd 14)])), ((bd 1), .inl (cy 0, 130, .inl (nIf f_))), ((bd 5), .inl (cy 0, 80, .inl (nIf pd_))), ((bd 6), .inl (cy 0, 16, .inl (nIf tl_))), ((bd 7), .inl (cy 2, 16, .inl (nBf is_)))] H := hP
    have hD : va_D zA [((bd 0), .inr (5, [.int (nI 0), .ref (bd 1), .ref (bd 2), .int (nI um_), .ref (bd 3), .ref (bd 4), .ref (bd 5), .int (nI ln_), .int (nI at_), .int (nI 1), .ref (bd 6), .ref (bd 7), .ref (bd 8), .ref (bd 9), .ref (bd 10), .ref (bd 11), .ref (bd 12), .ref (bd 13), .ref (bd 14)])), ((bd 1), .inl (cy 0, 130, .inl (nIf f_))), ((bd 5), .inl (cy 0, 80, .inl (nIf pd_))), ((bd 6), .inl (cy 0, 16, .inl (nIf tl_))), ((bd 7), .inl (cy 2, 16, .inl (nBf is_)))] := hD
    refine lv_aload_n hx hb dX8_readsCycle_18 rfl (lv_at hl 0 rfl) ?_
    refine lv_dup hx hb dX8_readsCycle_19 rfl ?_
    refine va_get (D := D) (ci := 5) (v := .int (nI at_)) (C := RX8) (T := TX8) (N := 19) hx hb hts (fun w h => List.mem_cons_of_mem _ (zinX8 w h)) hown hK.1 hP 0 rfl rfl 8 (by decide) (hts _ (List.mem_cons_of_mem _ zw_200)) (fun _ h9 => h9) rfl dX8_readsCycle_20 ?_
    refine lv_aload_n hx hb dX8_readsCycle_23 rfl (lv_at hl 0 rfl) ?_
    refine va_get (D := D) (ci := 5) (v := .int (nI 1)) (C := RX8) (T := TX8) (N := 19) hx hb hts (fun w h => List.mem_cons_of_mem _ (zinX8 w h)) hown hK.1 hP 0 rfl rfl 9 (by decide) (hts _ (List.mem_cons_of_mem _ zw_201)) (fun _ h9 => h9) rfl dX8_readsCycle_24 ?_
    refine zb0_eq (a := 1) (tgt := 34) hx hb dX8_readsCycle_27 (by decide) (by decide) (fun hd_ => absurd hd_ (by decide)) (fun c27 => ?_)
    refine lv_iconst (v := nI 1) hx hb dX8_readsCycle_30 (by decide) ?_
    refine lv_goto (tgt := 35) hx hb dX8_readsCycle_31 (by decide) ?_
    refine zi_add (v := nI (at_ + 1)) hx hb dX8_readsCycle_35 (nI_add _ _) ?_
    refine va_put (D := D) (ci := 5) (v := .int (nI (at_ + 1))) (ty := .int) (C := RX8) (T := TX8) (N := 19) hx hb hts (fun w h => List.mem_cons_of_mem _ (zinX8 w h)) tyX8 tyX8_ok nmX8 hown hK.1 hP hD hS 0 rfl rfl 8 (by decide) (hts _ (List.mem_cons_of_mem _ zw_200)) (fun _ h9 => h9) rfl (tyX8_ok 8 (by decide)) rfl rfl (Nat.le_of_ble_eq_true rfl) dX8_readsCycle_36 (fun H locs hP hD hS => ?_)
    have hP : va_P D vwCl [((bd 0), .inr (5, [.int (nI 0), .ref (bd 1), .ref (bd 2), .int (nI um_), .ref (bd 3), .ref (bd 4), .ref (bd 5), .int (nI ln_), .int (nI (at_ + 1)), .int (nI 1), .ref (bd 6), .ref (bd 7), .ref (bd 8), .ref (bd 9), .ref (bd 10), .ref (bd 11), .ref (bd 12), .ref (bd 13), .ref (bd 14)])), ((bd 1), .inl (cy 0, 130, .inl (nIf f_))), ((bd 5), .inl (cy 0, 80, .inl (nIf pd_))), ((bd 6), .inl (cy 0, 16, .inl (nIf tl_))), ((bd 7), .inl (cy 2, 16, .inl (nBf is_)))] H := hP
    have hD : va_D zA [((bd 0), .inr (5, [.int (nI 0), .ref (bd 1), .ref (bd 2), .int (nI um_), .ref (bd 3), .ref (bd 4), .ref (bd 5), .int (nI ln_), .int (nI (at_ + 1)), .int (nI 1), .ref (bd 6), .ref (bd 7), .ref (bd 8), .ref (bd 9), .ref (bd 10), .ref (bd 11), .ref (bd 12), .ref (bd 13), .ref (bd 14)])), ((bd 1), .inl (cy 0, 130, .inl (nIf f_))), ((bd 5), .inl (cy 0, 80, .inl (nIf pd_))), ((bd 6), .inl (cy 0, 16, .inl (nIf tl_))), ((bd 7), .inl (cy 2, 16, .inl (nBf is_)))] := hD
    refine lv_aload_n hx hb dX8_readsCycle_39 rfl (lv_at hl 0 rfl) ?_
    refine va_get (D := D) (ci := 5) (v := .int (nI 1)) (C := RX8) (T := TX8) (N := 19) hx hb hts (fun w h => List.mem_cons_of_mem _ (zinX8 w h)) hown hK.1 hP 0 rfl rfl 9 (by decide) (hts _ (List.mem_cons_of_mem _ zw_201)) (fun _ h9 => h9) rfl dX8_readsCycle_40 ?_
    refine zb0_eq (a := 1) (tgt := 53) hx hb dX8_readsCycle_43 (by decide) (by decide) (fun hd_ => absurd hd_ (by decide)) (fun c43 => ?_)
    refine lv_aload_n hx hb dX8_readsCycle_46 rfl (lv_at hl 0 rfl) ?_
    refine zcWi (As := []) (rest := []) (wr := [((bd 6), .inl (cy 0, 16, .inl (nIf tl_)))]) ⟨hx, hb, hml, hown, hts⟩ (c_X8_place l D cy H.size bd um_ ln_ (at_ + 1) true f_ pd_ is_ us_ z0_ mv_ dg_ 0 fi_ la_ (by omega) (by omega) hpd (by omega) his hA1 hsy1) (cwV 0 hts (zG_V zw_210 zw_211 zw_212 zw_5 zw_213) rfl rfl rfl zd_X8_place ⟨Nat.le_of_ble_eq_true rfl, Nat.le_of_ble_eq_true rfl⟩) hK hP hD hS hA [0, 1, 2, 4] [3] [1, 2, 3, 0, 4] rfl (by decide) rfl (by decide) (by decide) (w2 := (fun u_ : Nat × Bool × (Nat → Bool) => ([((bd 0), .inr (5, [.int (nI 0), .ref (bd 1), .ref (bd 2), .int (nI um_), .ref (bd 3), .ref (bd 4), .ref (bd 5), .int (nI ln_), .int (nI u_.1), .int (if u_.2.1 = true then 1 else 0), .ref (bd 6), .ref (bd 7), .ref (bd 8), .ref (bd 9), .ref (bd 10), .ref (bd 11), .ref (bd 12), .ref (bd 13), .ref (bd 14)])), ((bd 1), .inl (cy 0, 130, .inl (nIf f_))), ((bd 5), .inl (cy 0, 80, .inl (nIf pd_))), ((bd 6), .inl (cy 0, 16, .inl (nIf tl_))), ((bd 7), .inl (cy 2, 16, .inl (nBf u_.2.2)))] : va_W))) (fun _ => rfl) (by decide) rfl rfl rfl rfl hl.1 rfl (Nat.le_of_ble_eq_true rfl) dX8_readsCycle_47 ⟨Nat.zero_le _, Nat.zero_le _⟩ (fun r47 u47 H locs h47 hP hD hS => ?_)
    obtain ⟨j8_47, w8_47, i2_47⟩ := u47
    have h47 : PlaceR (f_ 0) pd_ z0_ ln_ (at_ + 1) mv_ us_ 0 fi_ la_ is_ r47 j8_47 w8_47 i2_47 := h47
    have hP : va_P D vwCl [((bd 0), .inr (5, [.int (nI 0), .ref (bd 1), .ref (bd 2), .int (nI um_), .ref (bd 3), .ref (bd 4), .ref (bd 5), .int (nI ln_), .int (nI j8_47), .int (if w8_47 = true then 1 else 0), .ref (bd 6), .ref (bd 7), .ref (bd 8), .ref (bd 9), .ref (bd 10), .ref (bd 11), .ref (bd 12), .ref (bd 13), .ref (bd 14)])), ((bd 1), .inl (cy 0, 130, .inl (nIf f_))), ((bd 5), .inl (cy 0, 80, .inl (nIf pd_))), ((bd 6), .inl (cy 0, 16, .inl (nIf tl_))), ((bd 7), .inl (cy 2, 16, .inl (nBf i2_47)))] H := hP
    have hD : va_D zA [((bd 0), .inr (5, [.int (nI 0), .ref (bd 1), .ref (bd 2), .int (nI um_), .ref (bd 3), .ref (bd 4), .ref (bd 5), .int (nI ln_), .int (nI j8_47), .int (if w8_47 = true then 1 else 0), .ref (bd 6), .ref (bd 7), .ref (bd 8), .ref (bd 9), .ref (bd 10), .ref (bd 11), .ref (bd 12), .ref (bd 13), .ref (bd 14)])), ((bd 1), .inl (cy 0, 130, .inl (nIf f_))), ((bd 5), .inl (cy 0, 80, .inl (nIf pd_))), ((bd 6), .inl (cy 0, 16, .inl (nIf tl_))), ((bd 7), .inl (cy 2, 16, .inl (nBf i2_47)))] := hD
    obtain ⟨hj1, hj2, hn47, hy47⟩ := h47
    rcases w8_47 with _ | _
    · have hP : va_P D vwCl [((bd 0), .inr (5, [.int (nI 0), .ref (bd 1), .ref (bd 2), .int (nI um_), .ref (bd 3), .ref (bd 4), .ref (bd 5), .int (nI ln_), .int (nI j8_47), .int (nI 0), .ref (bd 6), .ref (bd 7), .ref (bd 8), .ref (bd 9), .ref (bd 10), .ref (bd 11), .ref (bd 12), .ref (bd 13), .ref (bd 14)])), ((bd 1), .inl (cy 0, 130, .inl (nIf f_))), ((bd 5), .inl (cy 0, 80, .inl (nIf pd_))), ((bd 6), .inl (cy 0, 16, .inl (nIf tl_))), ((bd 7), .inl (cy 2, 16, .inl (nBf i2_47)))] H := hP
      have hD : va_D zA [((bd 0), .inr (5, [.int (nI 0), .ref (bd 1), .ref (bd 2), .int (nI um_), .ref (bd 3), .ref (bd 4), .ref (bd 5), .int (nI ln_), .int (nI j8_47), .int (nI 0), .ref (bd 6), .ref (bd 7), .ref (bd 8), .ref (bd 9), .ref (bd 10), .ref (bd 11), .ref (bd 12), .ref (bd 13), .ref (bd 14)])), ((bd 1), .inl (cy 0, 130, .inl (nIf f_))), ((bd 5), .inl (cy 0, 80, .inl (nIf pd_))), ((bd 6), .inl (cy 0, 16, .inl (nIf tl_))), ((bd 7), .inl (cy 2, 16, .inl (nBf i2_47)))] := hD
      refine lv_goto (tgt := 54) hx hb dX8_readsCycle_50 (by decide) ?_
      refine lv_istore_n (lv' := [(1, .int r47), (0, .ref (bd 0))]) hx hb dX8_readsCycle_54 rfl hl (by decide) rfl (fun ls hl => ?_)
      refine lv_aload_n hx hb dX8_readsCycle_55 rfl (lv_at hl 1 rfl) ?_
      refine lv_aload_n hx hb dX8_readsCycle_56 rfl (lv_at hl 1 rfl) ?_
      refine va_get (D := D) (ci := 5) (v := .int (nI 0)) (C := RX8) (T := TX8) (N := 19) hx hb hts (fun w h => List.mem_cons_of_mem _ (zinX8 w h)) hown hK.1 hP 0 rfl rfl 9 (by decide) (hts _ (List.mem_cons_of_mem _ zw_201)) (fun _ h9 => h9) rfl dX8_readsCycle_57 ?_
      refine zb0_eq (a := 0) (tgt := 76) hx hb dX8_readsCycle_60 (by decide) (by decide) (fun c60 => ?_) (fun hd_ => absurd hd_ (by decide))
      refine lv_iconst (v := nI 0) hx hb dX8_readsCycle_76 (by decide) ?_
      refine va_put (D := D) (ci := 5) (v := .int (nI 0)) (ty := .boolean) (C := RX8) (T := TX8) (N := 19) hx hb hts (fun w h => List.mem_cons_of_mem _ (zinX8 w h)) tyX8 tyX8_ok nmX8 hown hK.1 hP hD hS 0 rfl rfl 9 (by decide) (hts _ (List.mem_cons_of_mem _ zw_201)) (fun _ h9 => h9) rfl (tyX8_ok 9 (by decide)) rfl rfl (Nat.le_of_ble_eq_true rfl) dX8_readsCycle_77 (fun H locs hP hD hS => ?_)
      have hP : va_P D vwCl [((bd 0), .inr (5, [.int (nI 0), .ref (bd 1), .ref (bd 2), .int (nI um_), .ref (bd 3), .ref (bd 4), .ref (bd 5), .int (nI ln_), .int (nI j8_47), .int (nI 0), .ref (bd 6), .ref (bd 7), .ref (bd 8), .ref (bd 9), .ref (bd 10), .ref (bd 11), .ref (bd 12), .ref (bd 13), .ref (bd 14)])), ((bd 1), .inl (cy 0, 130, .inl (nIf f_))), ((bd 5), .inl (cy 0, 80, .inl (nIf pd_))), ((bd 6), .inl (cy 0, 16, .inl (nIf tl_))), ((bd 7), .inl (cy 2, 16, .inl (nBf i2_47)))] H := hP
      have hD : va_D zA [((bd 0), .inr (5, [.int (nI 0), .ref (bd 1), .ref (bd 2), .int (nI um_), .ref (bd 3), .ref (bd 4), .ref (bd 5), .int (nI ln_), .int (nI j8_47), .int (nI 0), .ref (bd 6), .ref (bd 7), .ref (bd 8), .ref (bd 9), .ref (bd 10), .ref (bd 11), .ref (bd 12), .ref (bd 13), .ref (bd 14)])), ((bd 1), .inl (cy 0, 130, .inl (nIf f_))), ((bd 5), .inl (cy 0, 80, .inl (nIf pd_))), ((bd 6), .inl (cy 0, 16, .inl (nIf tl_))), ((bd 7), .inl (cy 2, 16, .inl (nBf i2_47)))] := hD
      refine lv_aload_n hx hb dX8_readsCycle_80 rfl (lv_at hl 1 rfl) ?_
      refine va_get (D := D) (ci := 5) (v := .int (nI 0)) (C := RX8) (T := TX8) (N := 19) hx hb hts (fun w h => List.mem_cons_of_mem _ (zinX8 w h)) hown hK.1 hP 0 rfl rfl 9 (by decide) (hts _ (List.mem_cons_of_mem _ zw_201)) (fun _ h9 => h9) rfl dX8_readsCycle_81 ?_
      refine zb0_ne (a := 0) (tgt := 88) hx hb dX8_readsCycle_84 (by decide) (by decide) (fun hd_ => absurd hd_ (by decide)) (fun c84 => ?_)
      exact kr (j8_47, false, i2_47, tl_) _ _ _ _ dX8_readsCycle_87 (cyR_no (j := j8_47) (by omega) (by omega) (hn47 rfl)) hP hD hS
    · obtain ⟨d_, hd_, er_, hjl2, hsy2, hA2, hfr, hch, ei_⟩ := hy47 rfl
      subst er_
      subst ei_
      have hP : va_P D vwCl [((bd 0), .inr (5, [.int (nI 0), .ref (bd 1), .ref (bd 2), .int (nI um_), .ref (bd 3), .ref (bd 4), .ref (bd 5), .int (nI ln_), .int (nI j8_47), .int (nI 1), .ref (bd 6), .ref (bd 7), .ref (bd 8), .ref (bd 9), .ref (bd 10), .ref (bd 11), .ref (bd 12), .ref (bd 13), .ref (bd 14)])), ((bd 1), .inl (cy 0, 130, .inl (nIf f_))), ((bd 5), .inl (cy 0, 80, .inl (nIf pd_))), ((bd 6), .inl (cy 0, 16, .inl (nIf tl_))), ((bd 7), .inl (cy 2, 16, .inl (nBf (uB1 is_ d_ true))))] H := hP
      have hD : va_D zA [((bd 0), .inr (5, [.int (nI 0), .ref (bd 1), .ref (bd 2), .int (nI um_), .ref (bd 3), .ref (bd 4), .ref (bd 5), .int (nI ln_), .int (nI j8_47), .int (nI 1), .ref (bd 6), .ref (bd 7), .ref (bd 8), .ref (bd 9), .ref (bd 10), .ref (bd 11), .ref (bd 12), .ref (bd 13), .ref (bd 14)])), ((bd 1), .inl (cy 0, 130, .inl (nIf f_))), ((bd 5), .inl (cy 0, 80, .inl (nIf pd_))), ((bd 6), .inl (cy 0, 16, .inl (nIf tl_))), ((bd 7), .inl (cy 2, 16, .inl (nBf (uB1 is_ d_ true))))] := hD
      have hdl := frE_lt hfr
      have hLj := ltr_lt hpd j8_47
      refine lv_goto (tgt := 54) hx hb dX8_readsCycle_50 (by decide) ?_
      refine lv_istore_n (lv' := [(1, .int (nI d_)), (0, .ref (bd 0))]) hx hb dX8_readsCycle_54 rfl hl (by decide) rfl (fun ls hl => ?_)
      refine lv_aload_n hx hb dX8_readsCycle_55 rfl (lv_at hl 1 rfl) ?_
      refine lv_aload_n hx hb dX8_readsCycle_56 rfl (lv_at hl 1 rfl) ?_
      refine va_get (D := D) (ci := 5) (v := .int (nI 1)) (C := RX8) (T := TX8) (N := 19) hx hb hts (fun w h => List.mem_cons_of_mem _ (zinX8 w h)) hown hK.1 hP 0 rfl rfl 9 (by decide) (hts _ (List.mem_cons_of_mem _ zw_201)) (fun _ h9 => h9) rfl dX8_readsCycle_57 ?_
      refine zb0_eq (a := 1) (tgt := 76) hx hb dX8_readsCycle_60 (by decide) (by decide) (fun hd_ => absurd hd_ (by decide)) (fun c60 => ?_)
      refine lv_aload_n hx hb dX8_readsCycle_63 rfl (lv_at hl 1 rfl) ?_
      refine zcRi (As := []) (rest := [.ref (bd 0)]) ⟨hx, hb, hml, hown, hts⟩ (c_X8_letter l D cy bd um_ ln_ j8_47 true pd_ (by omega) hpd (by omega)) (cwV 0 hts (zG_V zw_202 zw_203 zw_204 zw_5 zw_205) rfl rfl rfl zd_X8_letter ⟨Nat.le_of_ble_eq_true rfl, Nat.le_of_ble_eq_true rfl⟩) hK hP [0, 2] rfl rfl rfl rfl rfl hl.1 rfl (Nat.le_of_ble_eq_true rfl) dX8_readsCycle_64 ⟨Nat.zero_le _, Nat.zero_le _⟩ (fun r64 h64 => ?_)
      subst h64
      refine lv_bipush (v := nI 44) hx hb dX8_readsCycle_67 (by decide) ?_
      refine zb_ne (a := ltr pd_ ln_ j8_47) (b := 44) (tgt := 76) hx hb dX8_readsCycle_69 (by decide) (by omega) (by omega) (fun c69 => ?_) (fun c69 => ?_)
      · skip
        refine lv_iconst (v := nI 0) hx hb dX8_readsCycle_76 (by decide) ?_
        refine va_put (D := D) (ci := 5) (v := .int (nI 0)) (ty := .boolean) (C := RX8) (T := TX8) (N := 19) hx hb hts (fun w h => List.mem_cons_of_mem _ (zinX8 w h)) tyX8 tyX8_ok nmX8 hown hK.1 hP hD hS 0 rfl rfl 9 (by decide) (hts _ (List.mem_cons_of_mem _ zw_201)) (fun _ h9 => h9) rfl (tyX8_ok 9 (by decide)) rfl rfl (Nat.le_of_ble_eq_true rfl) dX8_readsCycle_77 (fun H locs hP hD hS => ?_)
        have hP : va_P D vwCl [((bd 0), .inr (5, [.int (nI 0), .ref (bd 1), .ref (bd 2), .int (nI um_), .ref (bd 3), .ref (bd 4), .ref (bd 5), .int (nI ln_), .int (nI j8_47), .int (nI 0), .ref (bd 6), .ref (bd 7), .ref (bd 8), .ref (bd 9), .ref (bd 10), .ref (bd 11), .ref (bd 12), .ref (bd 13), .ref (bd 14)])), ((bd 1), .inl (cy 0, 130, .inl (nIf f_))), ((bd 5), .inl (cy 0, 80, .inl (nIf pd_))), ((bd 6), .inl (cy 0, 16, .inl (nIf tl_))), ((bd 7), .inl (cy 2, 16, .inl (nBf (uB1 is_ d_ true))))] H := hP
        have hD : va_D zA [((bd 0), .inr (5, [.int (nI 0), .ref (bd 1), .ref (bd 2), .int (nI um_), .ref (bd 3), .ref (bd 4), .ref (bd 5), .int (nI ln_), .int (nI j8_47), .int (nI 0), .ref (bd 6), .ref (bd 7), .ref (bd 8), .ref (bd 9), .ref (bd 10), .ref (bd 11), .ref (bd 12), .ref (bd 13), .ref (bd 14)])), ((bd 1), .inl (cy 0, 130, .inl (nIf f_))), ((bd 5), .inl (cy 0, 80, .inl (nIf pd_))), ((bd 6), .inl (cy 0, 16, .inl (nIf tl_))), ((bd 7), .inl (cy 2, 16, .inl (nBf (uB1 is_ d_ true))))] := hD
        refine lv_aload_n hx hb dX8_readsCycle_80 rfl (lv_at hl 1 rfl) ?_
        refine va_get (D := D) (ci := 5) (v := .int (nI 0)) (C := RX8) (T := TX8) (N := 19) hx hb hts (fun w h => List.mem_cons_of_mem _ (zinX8 w h)) hown hK.1 hP 0 rfl rfl 9 (by decide) (hts _ (List.mem_cons_of_mem _ zw_201)) (fun _ h9 => h9) rfl dX8_readsCycle_81 ?_
        refine zb0_ne (a := 0) (tgt := 88) hx hb dX8_readsCycle_84 (by decide) (by decide) (fun hd_ => absurd hd_ (by decide)) (fun c84 => ?_)
        exact kr (j8_47, false, (uB1 is_ d_ true), tl_) _ _ _ _ dX8_readsCycle_87 (cyR_no (j := j8_47) (by omega) (by omega) (lp_bad hjl2 hsy2 hA2 hch c69)) hP hD hS
      · skip
        refine lv_iconst (v := nI 1) hx hb dX8_readsCycle_72 (by decide) ?_
        refine lv_goto (tgt := 77) hx hb dX8_readsCycle_73 (by decide) ?_
        refine va_put (D := D) (ci := 5) (v := .int (nI 1)) (ty := .boolean) (C := RX8) (T := TX8) (N := 19) hx hb hts (fun w h => List.mem_cons_of_mem _ (zinX8 w h)) tyX8 tyX8_ok nmX8 hown hK.1 hP hD hS 0 rfl rfl 9 (by decide) (hts _ (List.mem_cons_of_mem _ zw_201)) (fun _ h9 => h9) rfl (tyX8_ok 9 (by decide)) rfl rfl (Nat.le_of_ble_eq_true rfl) dX8_readsCycle_77 (fun H locs hP hD hS => ?_)
        have hP : va_P D vwCl [((bd 0), .inr (5, [.int (nI 0), .ref (bd 1), .ref (bd 2), .int (nI um_), .ref (bd 3), .ref (bd 4), .ref (bd 5), .int (nI ln_), .int (nI j8_47), .int (nI 1), .ref (bd 6), .ref (bd 7), .ref (bd 8), .ref (bd 9), .ref (bd 10), .ref (bd 11), .ref (bd 12), .ref (bd 13), .ref (bd 14)])), ((bd 1), .inl (cy 0, 130, .inl (nIf f_))), ((bd 5), .inl (cy 0, 80, .inl (nIf pd_))), ((bd 6), .inl (cy 0, 16, .inl (nIf tl_))), ((bd 7), .inl (cy 2, 16, .inl (nBf (uB1 is_ d_ true))))] H := hP
        have hD : va_D zA [((bd 0), .inr (5, [.int (nI 0), .ref (bd 1), .ref (bd 2), .int (nI um_), .ref (bd 3), .ref (bd 4), .ref (bd 5), .int (nI ln_), .int (nI j8_47), .int (nI 1), .ref (bd 6), .ref (bd 7), .ref (bd 8), .ref (bd 9), .ref (bd 10), .ref (bd 11), .ref (bd 12), .ref (bd 13), .ref (bd 14)])), ((bd 1), .inl (cy 0, 130, .inl (nIf f_))), ((bd 5), .inl (cy 0, 80, .inl (nIf pd_))), ((bd 6), .inl (cy 0, 16, .inl (nIf tl_))), ((bd 7), .inl (cy 2, 16, .inl (nBf (uB1 is_ d_ true))))] := hD
        refine lv_aload_n hx hb dX8_readsCycle_80 rfl (lv_at hl 1 rfl) ?_
        refine va_get (D := D) (ci := 5) (v := .int (nI 1)) (C := RX8) (T := TX8) (N := 19) hx hb hts (fun w h => List.mem_cons_of_mem _ (zinX8 w h)) hown hK.1 hP 0 rfl rfl 9 (by decide) (hts _ (List.mem_cons_of_mem _ zw_201)) (fun _ h9 => h9) rfl dX8_readsCycle_81 ?_
        refine zb0_ne (a := 1) (tgt := 88) hx hb dX8_readsCycle_84 (by decide) (by decide) (fun c84 => ?_) (fun hd_ => absurd hd_ (by decide))
        have hlp0 := lp_first hjl2 hsy2 hA2 hfr c69 htl his
        refine lv_iload_n hx hb dX8_readsCycle_88 rfl (lv_at hl 0 rfl) ?_
        refine lv_istore_n (lv' := [(2, .int (nI d_)), (1, .int (nI d_)), (0, .ref (bd 0))]) hx hb dX8_readsCycle_89 rfl hl (by decide) rfl (fun ls hl => ?_)
        have L90 : ∀ (kf_ : Nat) (j_ : Nat) (b_ : Nat) (w_ : Bool) (tl_ : Nat → Nat) (is_ : Nat → Bool) (hkj : at_ < j_) (hjl : j_ ≤ ln_) (hb16 : b_ < 16) (hlp : w_ = true → LoopI (f_ 0) pd_ z0_ ln_ d_ j_ b_ tl_ is_) (hbad : w_ = false → fltI (f_ 0) pd_ z0_ ln_ = nI j_), ln_ + 1 - j_ < kf_ → ∀ (H : Heap) (locs : List Loc), va_P D vwCl [((bd 0), .inr (5, [.int (nI 0), .ref (bd 1), .ref (bd 2), .int (nI um_), .ref (bd 3), .ref (bd 4), .ref (bd 5), .int (nI ln_), .int (nI j_), .int (if w_ = true then 1 else 0), .ref (bd 6), .ref (bd 7), .ref (bd 8), .ref (bd 9), .ref (bd 10), .ref (bd 11), .ref (bd 12), .ref (bd 13), .ref (bd 14)])), ((bd 1), .inl (cy 0, 130, .inl (nIf f_))), ((bd 5), .inl (cy 0, 80, .inl (nIf pd_))), ((bd 6), .inl (cy 0, 16, .inl (nIf tl_))), ((bd 7), .inl (cy 2, 16, .inl (nBf is_)))] H → va_D zA [((bd 0), .inr (5, [.int (nI 0), .ref (bd 1), .ref (bd 2), .int (nI um_), .ref (bd 3), .ref (bd 4), .ref (bd 5), .int (nI ln_), .int (nI j_), .int (if w_ = true then 1 else 0), .ref (bd 6), .ref (bd 7), .ref (bd 8), .ref (bd 9), .ref (bd 10), .ref (bd 11), .ref (bd 12), .ref (bd 13), .ref (bd 14)])), ((bd 1), .inl (cy 0, 130, .inl (nIf f_))), ((bd 5), .inl (cy 0, 80, .inl (nIf pd_))), ((bd 6), .inl (cy 0, 16, .inl (nIf tl_))), ((bd 7), .inl (cy 2, 16, .inl (nBf is_)))] → va_S zA zs.heap H locs → ∀ ls : Array Slot, lv_has ls 4 [(0, .ref (bd 0)), (1, .int (nI d_)), (2, .int (nI b_))] → W zp l ze r_X8_readsCycle zs zm za zb zme zc H locs 0 0 Q (F0 zm 90 ls []) := by
          intro kf_
          induction kf_ with
          | zero => intro j_ b_ w_ tl_ is_ hkj hjl hb16 hlp hbad hk_; exact absurd hk_ (Nat.not_lt_zero _)
          | succ kf_ ih90 =>
            intro j_ b_ w_ tl_ is_ hkj hjl hb16 hlp hbad hk_ H locs hP hD hS ls hl
            rcases w_ with _ | _
            · have hP : va_P D vwCl [((bd 0), .inr (5, [.int (nI 0), .ref (bd 1), .ref (bd 2), .int (nI um_), .ref (bd 3), .ref (bd 4), .ref (bd 5), .int (nI ln_), .int (nI j_), .int (nI 0), .ref (bd 6), .ref (bd 7), .ref (bd 8), .ref (bd 9), .ref (bd 10), .ref (bd 11), .ref (bd 12), .ref (bd 13), .ref (bd 14)])), ((bd 1), .inl (cy 0, 130, .inl (nIf f_))), ((bd 5), .inl (cy 0, 80, .inl (nIf pd_))), ((bd 6), .inl (cy 0, 16, .inl (nIf tl_))), ((bd 7), .inl (cy 2, 16, .inl (nBf is_)))] H := hP
              have hD : va_D zA [((bd 0), .inr (5, [.int (nI 0), .ref (bd 1), .ref (bd 2), .int (nI um_), .ref (bd 3), .ref (bd 4), .ref (bd 5), .int (nI ln_), .int (nI j_), .int (nI 0), .ref (bd 6), .ref (bd 7), .ref (bd 8), .ref (bd 9), .ref (bd 10), .ref (bd 11), .ref (bd 12), .ref (bd 13), .ref (bd 14)])), ((bd 1), .inl (cy 0, 130, .inl (nIf f_))), ((bd 5), .inl (cy 0, 80, .inl (nIf pd_))), ((bd 6), .inl (cy 0, 16, .inl (nIf tl_))), ((bd 7), .inl (cy 2, 16, .inl (nBf is_)))] := hD
              have hb90 := hbad rfl
              refine lv_aload_n hx hb dX8_readsCycle_90 rfl (lv_at hl 0 rfl) ?_
              refine va_get (D := D) (ci := 5) (v := .int (nI 0)) (C := RX8) (T := TX8) (N := 19) hx hb hts (fun w h => List.mem_cons_of_mem _ (zinX8 w h)) hown hK.1 hP 0 rfl rfl 9 (by decide) (hts _ (List.mem_cons_of_mem _ zw_201)) (fun _ h9 => h9) rfl dX8_readsCycle_91 ?_
              refine zb0_eq (a := 0) (tgt := 160) hx hb dX8_readsCycle_94 (by decide) (by decide) (fun c94 => ?_) (fun hd_ => absurd hd_ (by decide))
              refine lv_aload_n hx hb dX8_readsCycle_160 rfl (lv_at hl 0 rfl) ?_
              refine lv_aload_n hx hb dX8_readsCycle_161 rfl (lv_at hl 0 rfl) ?_
              refine va_get (D := D) (ci := 5) (v := .int (nI 0)) (C := RX8) (T := TX8) (N := 19) hx hb hts (fun w h => List.mem_cons_of_mem _ (zinX8 w h)) hown hK.1 hP 0 rfl rfl 9 (by decide) (hts _ (List.mem_cons_of_mem _ zw_201)) (fun _ h9 => h9) rfl dX8_readsCycle_162 ?_
              refine zb0_eq (a := 0) (tgt := 181) hx hb dX8_readsCycle_165 (by decide) (by decide) (fun c165 => ?_) (fun hd_ => absurd hd_ (by decide))
              refine lv_iconst (v := nI 0) hx hb dX8_readsCycle_181 (by decide) ?_
              refine va_put (D := D) (ci := 5) (v := .int (nI 0)) (ty := .boolean) (C := RX8) (T := TX8) (N := 19) hx hb hts (fun w h => List.mem_cons_of_mem _ (zinX8 w h)) tyX8 tyX8_ok nmX8 hown hK.1 hP hD hS 0 rfl rfl 9 (by decide) (hts _ (List.mem_cons_of_mem _ zw_201)) (fun _ h9 => h9) rfl (tyX8_ok 9 (by decide)) rfl rfl (Nat.le_of_ble_eq_true rfl) dX8_readsCycle_182 (fun H locs hP hD hS => ?_)
              have hP : va_P D vwCl [((bd 0), .inr (5, [.int (nI 0), .ref (bd 1), .ref (bd 2), .int (nI um_), .ref (bd 3), .ref (bd 4), .ref (bd 5), .int (nI ln_), .int (nI j_), .int (nI 0), .ref (bd 6), .ref (bd 7), .ref (bd 8), .ref (bd 9), .ref (bd 10), .ref (bd 11), .ref (bd 12), .ref (bd 13), .ref (bd 14)])), ((bd 1), .inl (cy 0, 130, .inl (nIf f_))), ((bd 5), .inl (cy 0, 80, .inl (nIf pd_))), ((bd 6), .inl (cy 0, 16, .inl (nIf tl_))), ((bd 7), .inl (cy 2, 16, .inl (nBf is_)))] H := hP
              have hD : va_D zA [((bd 0), .inr (5, [.int (nI 0), .ref (bd 1), .ref (bd 2), .int (nI um_), .ref (bd 3), .ref (bd 4), .ref (bd 5), .int (nI ln_), .int (nI j_), .int (nI 0), .ref (bd 6), .ref (bd 7), .ref (bd 8), .ref (bd 9), .ref (bd 10), .ref (bd 11), .ref (bd 12), .ref (bd 13), .ref (bd 14)])), ((bd 1), .inl (cy 0, 130, .inl (nIf f_))), ((bd 5), .inl (cy 0, 80, .inl (nIf pd_))), ((bd 6), .inl (cy 0, 16, .inl (nIf tl_))), ((bd 7), .inl (cy 2, 16, .inl (nBf is_)))] := hD
              refine lv_aload_n hx hb dX8_readsCycle_185 rfl (lv_at hl 0 rfl) ?_
              refine lv_dup hx hb dX8_readsCycle_186 rfl ?_
              refine va_get (D := D) (ci := 5) (v := .int (nI j_)) (C := RX8) (T := TX8) (N := 19) hx hb hts (fun w h => List.mem_cons_of_mem _ (zinX8 w h)) hown hK.1 hP 0 rfl rfl 8 (by decide) (hts _ (List.mem_cons_of_mem _ zw_200)) (fun _ h9 => h9) rfl dX8_readsCycle_187 ?_
              refine lv_aload_n hx hb dX8_readsCycle_190 rfl (lv_at hl 0 rfl) ?_
              refine va_get (D := D) (ci := 5) (v := .int (nI 0)) (C := RX8) (T := TX8) (N := 19) hx hb hts (fun w h => List.mem_cons_of_mem _ (zinX8 w h)) hown hK.1 hP 0 rfl rfl 9 (by decide) (hts _ (List.mem_cons_of_mem _ zw_201)) (fun _ h9 => h9) rfl dX8_readsCycle_191 ?_
              refine zb0_eq (a := 0) (tgt := 201) hx hb dX8_readsCycle_194 (by decide) (by decide) (fun c194 => ?_) (fun hd_ => absurd hd_ (by decide))
              refine lv_iconst (v := nI 0) hx hb dX8_readsCycle_201 (by decide) ?_
              refine zi_add (v := nI j_) hx hb dX8_readsCycle_202 (nI_add _ _) ?_
              refine va_put (D := D) (ci := 5) (v := .int (nI j_)) (ty := .int) (C := RX8) (T := TX8) (N := 19) hx hb hts (fun w h => List.mem_cons_of_mem _ (zinX8 w h)) tyX8 tyX8_ok nmX8 hown hK.1 hP hD hS 0 rfl rfl 8 (by decide) (hts _ (List.mem_cons_of_mem _ zw_200)) (fun _ h9 => h9) rfl (tyX8_ok 8 (by decide)) rfl rfl (Nat.le_of_ble_eq_true rfl) dX8_readsCycle_203 (fun H locs hP hD hS => ?_)
              have hP : va_P D vwCl [((bd 0), .inr (5, [.int (nI 0), .ref (bd 1), .ref (bd 2), .int (nI um_), .ref (bd 3), .ref (bd 4), .ref (bd 5), .int (nI ln_), .int (nI j_), .int (nI 0), .ref (bd 6), .ref (bd 7), .ref (bd 8), .ref (bd 9), .ref (bd 10), .ref (bd 11), .ref (bd 12), .ref (bd 13), .ref (bd 14)])), ((bd 1), .inl (cy 0, 130, .inl (nIf f_))), ((bd 5), .inl (cy 0, 80, .inl (nIf pd_))), ((bd 6), .inl (cy 0, 16, .inl (nIf tl_))), ((bd 7), .inl (cy 2, 16, .inl (nBf is_)))] H := hP
              have hD : va_D zA [((bd 0), .inr (5, [.int (nI 0), .ref (bd 1), .ref (bd 2), .int (nI um_), .ref (bd 3), .ref (bd 4), .ref (bd 5), .int (nI ln_), .int (nI j_), .int (nI 0), .ref (bd 6), .ref (bd 7), .ref (bd 8), .ref (bd 9), .ref (bd 10), .ref (bd 11), .ref (bd 12), .ref (bd 13), .ref (bd 14)])), ((bd 1), .inl (cy 0, 130, .inl (nIf f_))), ((bd 5), .inl (cy 0, 80, .inl (nIf pd_))), ((bd 6), .inl (cy 0, 16, .inl (nIf tl_))), ((bd 7), .inl (cy 2, 16, .inl (nBf is_)))] := hD
              refine lv_aload_n hx hb dX8_readsCycle_206 rfl (lv_at hl 0 rfl) ?_
              refine va_get (D := D) (ci := 5) (v := .ref (bd 6)) (C := RX8) (T := TX8) (N := 19) hx hb hts (fun w h => List.mem_cons_of_mem _ (zinX8 w h)) hown hK.1 hP 0 rfl rfl 10 (by decide) (hts _ (List.mem_cons_of_mem _ zw_79)) (fun _ h9 => h9) rfl dX8_readsCycle_207 ?_
              refine lv_iload_n hx hb dX8_readsCycle_210 rfl (lv_at hl 2 rfl) ?_
              refine lv_aload_n hx hb dX8_readsCycle_211 rfl (lv_at hl 0 rfl) ?_
              refine va_get (D := D) (ci := 5) (v := .int (nI 0)) (C := RX8) (T := TX8) (N := 19) hx hb hts (fun w h => List.mem_cons_of_mem _ (zinX8 w h)) hown hK.1 hP 0 rfl rfl 9 (by decide) (hts _ (List.mem_cons_of_mem _ zw_201)) (fun _ h9 => h9) rfl dX8_readsCycle_212 ?_
              refine zb0_eq (a := 0) (tgt := 222) hx hb dX8_readsCycle_215 (by decide) (by decide) (fun c215 => ?_) (fun hd_ => absurd hd_ (by decide))
              refine lv_aload_n hx hb dX8_readsCycle_222 rfl (lv_at hl 0 rfl) ?_
              refine va_get (D := D) (ci := 5) (v := .ref (bd 6)) (C := RX8) (T := TX8) (N := 19) hx hb hts (fun w h => List.mem_cons_of_mem _ (zinX8 w h)) hown hK.1 hP 0 rfl rfl 10 (by decide) (hts _ (List.mem_cons_of_mem _ zw_79)) (fun _ h9 => h9) rfl dX8_readsCycle_223 ?_
              refine lv_iload_n hx hb dX8_readsCycle_226 rfl (lv_at hl 2 rfl) ?_
              refine zi_iald (v := nI (tl_ b_)) hx hb hK hP 3 rfl (by omega) (by omega) rfl dX8_readsCycle_227 ?_
              refine zi_iast hx hb hK hP hD hS 3 rfl (by omega) (by omega) dX8_readsCycle_228 (fun H locs hP hD hS => ?_)
              rw [upd_nIf] at hP hD
              have hP : va_P D vwCl [((bd 0), .inr (5, [.int (nI 0), .ref (bd 1), .ref (bd 2), .int (nI um_), .ref (bd 3), .ref (bd 4), .ref (bd 5), .int (nI ln_), .int (nI j_), .int (nI 0), .ref (bd 6), .ref (bd 7), .ref (bd 8), .ref (bd 9), .ref (bd 10), .ref (bd 11), .ref (bd 12), .ref (bd 13), .ref (bd 14)])), ((bd 1), .inl (cy 0, 130, .inl (nIf f_))), ((bd 5), .inl (cy 0, 80, .inl (nIf pd_))), ((bd 6), .inl (cy 0, 16, .inl (nIf (uN1 tl_ b_ (tl_ b_))))), ((bd 7), .inl (cy 2, 16, .inl (nBf is_)))] H := hP
              have hD : va_D zA [((bd 0), .inr (5, [.int (nI 0), .ref (bd 1), .ref (bd 2), .int (nI um_), .ref (bd 3), .ref (bd 4), .ref (bd 5), .int (nI ln_), .int (nI j_), .int (nI 0), .ref (bd 6), .ref (bd 7), .ref (bd 8), .ref (bd 9), .ref (bd 10), .ref (bd 11), .ref (bd 12), .ref (bd 13), .ref (bd 14)])), ((bd 1), .inl (cy 0, 130, .inl (nIf f_))), ((bd 5), .inl (cy 0, 80, .inl (nIf pd_))), ((bd 6), .inl (cy 0, 16, .inl (nIf (uN1 tl_ b_ (tl_ b_))))), ((bd 7), .inl (cy 2, 16, .inl (nBf is_)))] := hD
              exact kr (j_, false, is_, (uN1 tl_ b_ (tl_ b_))) _ _ _ _ dX8_readsCycle_229 (cyR_no (j := j_) (by omega) (by omega) hb90) hP hD hS
            · have hP : va_P D vwCl [((bd 0), .inr (5, [.int (nI 0), .ref (bd 1), .ref (bd 2), .int (nI um_), .ref (bd 3), .ref (bd 4), .ref (bd 5), .int (nI ln_), .int (nI j_), .int (nI 1), .ref (bd 6), .ref (bd 7), .ref (bd 8), .ref (bd 9), .ref (bd 10), .ref (bd 11), .ref (bd 12), .ref (bd 13), .ref (bd 14)])), ((bd 1), .inl (cy 0, 130, .inl (nIf f_))), ((bd 5), .inl (cy 0, 80, .inl (nIf pd_))), ((bd 6), .inl (cy 0, 16, .inl (nIf tl_))), ((bd 7), .inl (cy 2, 16, .inl (nBf is_)))] H := hP
              have hD : va_D zA [((bd 0), .inr (5, [.int (nI 0), .ref (bd 1), .ref (bd 2), .int (nI um_), .ref (bd 3), .ref (bd 4), .ref (bd 5), .int (nI ln_), .int (nI j_), .int (nI 1), .ref (bd 6), .ref (bd 7), .ref (bd 8), .ref (bd 9), .ref (bd 10), .ref (bd 11), .ref (bd 12), .ref (bd 13), .ref (bd 14)])), ((bd 1), .inl (cy 0, 130, .inl (nIf f_))), ((bd 5), .inl (cy 0, 80, .inl (nIf pd_))), ((bd 6), .inl (cy 0, 16, .inl (nIf tl_))), ((bd 7), .inl (cy 2, 16, .inl (nBf is_)))] := hD
              have hl90 := hlp rfl
              have hj90 := hl90.1
              have hLj90 := ltr_lt hpd j_
              refine lv_aload_n hx hb dX8_readsCycle_90 rfl (lv_at hl 0 rfl) ?_
              refine va_get (D := D) (ci := 5) (v := .int (nI 1)) (C := RX8) (T := TX8) (N := 19) hx hb hts (fun w h => List.mem_cons_of_mem _ (zinX8 w h)) hown hK.1 hP 0 rfl rfl 9 (by decide) (hts _ (List.mem_cons_of_mem _ zw_201)) (fun _ h9 => h9) rfl dX8_readsCycle_91 ?_
              refine zb0_eq (a := 1) (tgt := 160) hx hb dX8_readsCycle_94 (by decide) (by decide) (fun hd_ => absurd hd_ (by decide)) (fun c94 => ?_)
              refine lv_aload_n hx hb dX8_readsCycle_97 rfl (lv_at hl 0 rfl) ?_
              refine zcRi (As := []) (rest := []) ⟨hx, hb, hml, hown, hts⟩ (c_X8_letter l D cy bd um_ ln_ j_ true pd_ (by omega) hpd (by omega)) (cwV 0 hts (zG_V zw_202 zw_203 zw_204 zw_5 zw_205) rfl rfl rfl zd_X8_letter ⟨Nat.le_of_ble_eq_true rfl, Nat.le_of_ble_eq_true rfl⟩) hK hP [0, 2] rfl rfl rfl rfl rfl hl.1 rfl (Nat.le_of_ble_eq_true rfl) dX8_readsCycle_98 ⟨Nat.zero_le _, Nat.zero_le _⟩ (fun r98 h98 => ?_)
              subst h98
              refine lv_bipush (v := nI 44) hx hb dX8_readsCycle_101 (by decide) ?_
              refine zb_ne (a := ltr pd_ ln_ j_) (b := 44) (tgt := 160) hx hb dX8_readsCycle_103 (by decide) (by omega) (by omega) (fun c103 => ?_) (fun c103 => ?_)
              · skip
                refine lv_aload_n hx hb dX8_readsCycle_160 rfl (lv_at hl 0 rfl) ?_
                refine lv_aload_n hx hb dX8_readsCycle_161 rfl (lv_at hl 0 rfl) ?_
                refine va_get (D := D) (ci := 5) (v := .int (nI 1)) (C := RX8) (T := TX8) (N := 19) hx hb hts (fun w h => List.mem_cons_of_mem _ (zinX8 w h)) hown hK.1 hP 0 rfl rfl 9 (by decide) (hts _ (List.mem_cons_of_mem _ zw_201)) (fun _ h9 => h9) rfl dX8_readsCycle_162 ?_
                refine zb0_eq (a := 1) (tgt := 181) hx hb dX8_readsCycle_165 (by decide) (by decide) (fun hd_ => absurd hd_ (by decide)) (fun c165 => ?_)
                obtain ⟨h41, hcy⟩ := lp_close hN_ (show d_ < 16 by omega) (k := at_) (by omega) hl90 c103
                refine lv_aload_n hx hb dX8_readsCycle_168 rfl (lv_at hl 0 rfl) ?_
                refine zcRi (As := []) (rest := [.ref (bd 0)]) ⟨hx, hb, hml, hown, hts⟩ (c_X8_letter l D cy bd um_ ln_ j_ true pd_ (by omega) hpd (by omega)) (cwV 0 hts (zG_V zw_202 zw_203 zw_204 zw_5 zw_205) rfl rfl rfl zd_X8_letter ⟨Nat.le_of_ble_eq_true rfl, Nat.le_of_ble_eq_true rfl⟩) hK hP [0, 2] rfl rfl rfl rfl rfl hl.1 rfl (Nat.le_of_ble_eq_true rfl) dX8_readsCycle_169 ⟨Nat.zero_le _, Nat.zero_le _⟩ (fun r169 h169 => ?_)
                subst h169
                refine lv_bipush (v := nI 41) hx hb dX8_readsCycle_172 (by decide) ?_
                refine zb_ne (a := ltr pd_ ln_ j_) (b := 41) (tgt := 181) hx hb dX8_readsCycle_174 (by decide) (by omega) (by omega) (fun hd_ => absurd hd_ (by omega)) (fun c174 => ?_)
                refine lv_iconst (v := nI 1) hx hb dX8_readsCycle_177 (by decide) ?_
                refine lv_goto (tgt := 182) hx hb dX8_readsCycle_178 (by decide) ?_
                refine va_put (D := D) (ci := 5) (v := .int (nI 1)) (ty := .boolean) (C := RX8) (T := TX8) (N := 19) hx hb hts (fun w h => List.mem_cons_of_mem _ (zinX8 w h)) tyX8 tyX8_ok nmX8 hown hK.1 hP hD hS 0 rfl rfl 9 (by decide) (hts _ (List.mem_cons_of_mem _ zw_201)) (fun _ h9 => h9) rfl (tyX8_ok 9 (by decide)) rfl rfl (Nat.le_of_ble_eq_true rfl) dX8_readsCycle_182 (fun H locs hP hD hS => ?_)
                have hP : va_P D vwCl [((bd 0), .inr (5, [.int (nI 0), .ref (bd 1), .ref (bd 2), .int (nI um_), .ref (bd 3), .ref (bd 4), .ref (bd 5), .int (nI ln_), .int (nI j_), .int (nI 1), .ref (bd 6), .ref (bd 7), .ref (bd 8), .ref (bd 9), .ref (bd 10), .ref (bd 11), .ref (bd 12), .ref (bd 13), .ref (bd 14)])), ((bd 1), .inl (cy 0, 130, .inl (nIf f_))), ((bd 5), .inl (cy 0, 80, .inl (nIf pd_))), ((bd 6), .inl (cy 0, 16, .inl (nIf tl_))), ((bd 7), .inl (cy 2, 16, .inl (nBf is_)))] H := hP
                have hD : va_D zA [((bd 0), .inr (5, [.int (nI 0), .ref (bd 1), .ref (bd 2), .int (nI um_), .ref (bd 3), .ref (bd 4), .ref (bd 5), .int (nI ln_), .int (nI j_), .int (nI 1), .ref (bd 6), .ref (bd 7), .ref (bd 8), .ref (bd 9), .ref (bd 10), .ref (bd 11), .ref (bd 12), .ref (bd 13), .ref (bd 14)])), ((bd 1), .inl (cy 0, 130, .inl (nIf f_))), ((bd 5), .inl (cy 0, 80, .inl (nIf pd_))), ((bd 6), .inl (cy 0, 16, .inl (nIf tl_))), ((bd 7), .inl (cy 2, 16, .inl (nBf is_)))] := hD
                refine lv_aload_n hx hb dX8_readsCycle_185 rfl (lv_at hl 0 rfl) ?_
                refine lv_dup hx hb dX8_readsCycle_186 rfl ?_
                refine va_get (D := D) (ci := 5) (v := .int (nI j_)) (C := RX8) (T := TX8) (N := 19) hx hb hts (fun w h => List.mem_cons_of_mem _ (zinX8 w h)) hown hK.1 hP 0 rfl rfl 8 (by decide) (hts _ (List.mem_cons_of_mem _ zw_200)) (fun _ h9 => h9) rfl dX8_readsCycle_187 ?_
                refine lv_aload_n hx hb dX8_readsCycle_190 rfl (lv_at hl 0 rfl) ?_
                refine va_get (D := D) (ci := 5) (v := .int (nI 1)) (C := RX8) (T := TX8) (N := 19) hx hb hts (fun w h => List.mem_cons_of_mem _ (zinX8 w h)) hown hK.1 hP 0 rfl rfl 9 (by decide) (hts _ (List.mem_cons_of_mem _ zw_201)) (fun _ h9 => h9) rfl dX8_readsCycle_191 ?_
                refine zb0_eq (a := 1) (tgt := 201) hx hb dX8_readsCycle_194 (by decide) (by decide) (fun hd_ => absurd hd_ (by decide)) (fun c194 => ?_)
                refine lv_iconst (v := nI 1) hx hb dX8_readsCycle_197 (by decide) ?_
                refine lv_goto (tgt := 202) hx hb dX8_readsCycle_198 (by decide) ?_
                refine zi_add (v := nI (j_ + 1)) hx hb dX8_readsCycle_202 (nI_add _ _) ?_
                refine va_put (D := D) (ci := 5) (v := .int (nI (j_ + 1))) (ty := .int) (C := RX8) (T := TX8) (N := 19) hx hb hts (fun w h => List.mem_cons_of_mem _ (zinX8 w h)) tyX8 tyX8_ok nmX8 hown hK.1 hP hD hS 0 rfl rfl 8 (by decide) (hts _ (List.mem_cons_of_mem _ zw_200)) (fun _ h9 => h9) rfl (tyX8_ok 8 (by decide)) rfl rfl (Nat.le_of_ble_eq_true rfl) dX8_readsCycle_203 (fun H locs hP hD hS => ?_)
                have hP : va_P D vwCl [((bd 0), .inr (5, [.int (nI 0), .ref (bd 1), .ref (bd 2), .int (nI um_), .ref (bd 3), .ref (bd 4), .ref (bd 5), .int (nI ln_), .int (nI (j_ + 1)), .int (nI 1), .ref (bd 6), .ref (bd 7), .ref (bd 8), .ref (bd 9), .ref (bd 10), .ref (bd 11), .ref (bd 12), .ref (bd 13), .ref (bd 14)])), ((bd 1), .inl (cy 0, 130, .inl (nIf f_))), ((bd 5), .inl (cy 0, 80, .inl (nIf pd_))), ((bd 6), .inl (cy 0, 16, .inl (nIf tl_))), ((bd 7), .inl (cy 2, 16, .inl (nBf is_)))] H := hP
                have hD : va_D zA [((bd 0), .inr (5, [.int (nI 0), .ref (bd 1), .ref (bd 2), .int (nI um_), .ref (bd 3), .ref (bd 4), .ref (bd 5), .int (nI ln_), .int (nI (j_ + 1)), .int (nI 1), .ref (bd 6), .ref (bd 7), .ref (bd 8), .ref (bd 9), .ref (bd 10), .ref (bd 11), .ref (bd 12), .ref (bd 13), .ref (bd 14)])), ((bd 1), .inl (cy 0, 130, .inl (nIf f_))), ((bd 5), .inl (cy 0, 80, .inl (nIf pd_))), ((bd 6), .inl (cy 0, 16, .inl (nIf tl_))), ((bd 7), .inl (cy 2, 16, .inl (nBf is_)))] := hD
                refine lv_aload_n hx hb dX8_readsCycle_206 rfl (lv_at hl 0 rfl) ?_
                refine va_get (D := D) (ci := 5) (v := .ref (bd 6)) (C := RX8) (T := TX8) (N := 19) hx hb hts (fun w h => List.mem_cons_of_mem _ (zinX8 w h)) hown hK.1 hP 0 rfl rfl 10 (by decide) (hts _ (List.mem_cons_of_mem _ zw_79)) (fun _ h9 => h9) rfl dX8_readsCycle_207 ?_
                refine lv_iload_n hx hb dX8_readsCycle_210 rfl (lv_at hl 2 rfl) ?_
                refine lv_aload_n hx hb dX8_readsCycle_211 rfl (lv_at hl 0 rfl) ?_
                refine va_get (D := D) (ci := 5) (v := .int (nI 1)) (C := RX8) (T := TX8) (N := 19) hx hb hts (fun w h => List.mem_cons_of_mem _ (zinX8 w h)) hown hK.1 hP 0 rfl rfl 9 (by decide) (hts _ (List.mem_cons_of_mem _ zw_201)) (fun _ h9 => h9) rfl dX8_readsCycle_212 ?_
                refine zb0_eq (a := 1) (tgt := 222) hx hb dX8_readsCycle_215 (by decide) (by decide) (fun hd_ => absurd hd_ (by decide)) (fun c215 => ?_)
                refine lv_iload_n hx hb dX8_readsCycle_218 rfl (lv_at hl 1 rfl) ?_
                refine lv_goto (tgt := 228) hx hb dX8_readsCycle_219 (by decide) ?_
                refine zi_iast hx hb hK hP hD hS 3 rfl (by omega) (by omega) dX8_readsCycle_228 (fun H locs hP hD hS => ?_)
                rw [upd_nIf] at hP hD
                have hP : va_P D vwCl [((bd 0), .inr (5, [.int (nI 0), .ref (bd 1), .ref (bd 2), .int (nI um_), .ref (bd 3), .ref (bd 4), .ref (bd 5), .int (nI ln_), .int (nI (j_ + 1)), .int (nI 1), .ref (bd 6), .ref (bd 7), .ref (bd 8), .ref (bd 9), .ref (bd 10), .ref (bd 11), .ref (bd 12), .ref (bd 13), .ref (bd 14)])), ((bd 1), .inl (cy 0, 130, .inl (nIf f_))), ((bd 5), .inl (cy 0, 80, .inl (nIf pd_))), ((bd 6), .inl (cy 0, 16, .inl (nIf (uN1 tl_ b_ d_)))), ((bd 7), .inl (cy 2, 16, .inl (nBf is_)))] H := hP
                have hD : va_D zA [((bd 0), .inr (5, [.int (nI 0), .ref (bd 1), .ref (bd 2), .int (nI um_), .ref (bd 3), .ref (bd 4), .ref (bd 5), .int (nI ln_), .int (nI (j_ + 1)), .int (nI 1), .ref (bd 6), .ref (bd 7), .ref (bd 8), .ref (bd 9), .ref (bd 10), .ref (bd 11), .ref (bd 12), .ref (bd 13), .ref (bd 14)])), ((bd 1), .inl (cy 0, 130, .inl (nIf f_))), ((bd 5), .inl (cy 0, 80, .inl (nIf pd_))), ((bd 6), .inl (cy 0, 16, .inl (nIf (uN1 tl_ b_ d_)))), ((bd 7), .inl (cy 2, 16, .inl (nBf is_)))] := hD
                exact kr (j_ + 1, true, is_, (uN1 tl_ b_ d_)) _ _ _ _ dX8_readsCycle_229 hcy hP hD hS
              · skip
                refine lv_aload_n hx hb dX8_readsCycle_106 rfl (lv_at hl 0 rfl) ?_
                refine lv_dup hx hb dX8_readsCycle_107 rfl ?_
                refine va_get (D := D) (ci := 5) (v := .int (nI j_)) (C := RX8) (T := TX8) (N := 19) hx hb hts (fun w h => List.mem_cons_of_mem _ (zinX8 w h)) hown hK.1 hP 0 rfl rfl 8 (by decide) (hts _ (List.mem_cons_of_mem _ zw_200)) (fun _ h9 => h9) rfl dX8_readsCycle_108 ?_
                refine lv_iconst (v := nI 1) hx hb dX8_readsCycle_111 (by decide) ?_
                refine zi_add (v := nI (j_ + 1)) hx hb dX8_readsCycle_112 (nI_add _ _) ?_
                refine va_put (D := D) (ci := 5) (v := .int (nI (j_ + 1))) (ty := .int) (C := RX8) (T := TX8) (N := 19) hx hb hts (fun w h => List.mem_cons_of_mem _ (zinX8 w h)) tyX8 tyX8_ok nmX8 hown hK.1 hP hD hS 0 rfl rfl 8 (by decide) (hts _ (List.mem_cons_of_mem _ zw_200)) (fun _ h9 => h9) rfl (tyX8_ok 8 (by decide)) rfl rfl (Nat.le_of_ble_eq_true rfl) dX8_readsCycle_113 (fun H locs hP hD hS => ?_)
                have hP : va_P D vwCl [((bd 0), .inr (5, [.int (nI 0), .ref (bd 1), .ref (bd 2), .int (nI um_), .ref (bd 3), .ref (bd 4), .ref (bd 5), .int (nI ln_), .int (nI (j_ + 1)), .int (nI 1), .ref (bd 6), .ref (bd 7), .ref (bd 8), .ref (bd 9), .ref (bd 10), .ref (bd 11), .ref (bd 12), .ref (bd 13), .ref (bd 14)])), ((bd 1), .inl (cy 0, 130, .inl (nIf f_))), ((bd 5), .inl (cy 0, 80, .inl (nIf pd_))), ((bd 6), .inl (cy 0, 16, .inl (nIf tl_))), ((bd 7), .inl (cy 2, 16, .inl (nBf is_)))] H := hP
                have hD : va_D zA [((bd 0), .inr (5, [.int (nI 0), .ref (bd 1), .ref (bd 2), .int (nI um_), .ref (bd 3), .ref (bd 4), .ref (bd 5), .int (nI ln_), .int (nI (j_ + 1)), .int (nI 1), .ref (bd 6), .ref (bd 7), .ref (bd 8), .ref (bd 9), .ref (bd 10), .ref (bd 11), .ref (bd 12), .ref (bd 13), .ref (bd 14)])), ((bd 1), .inl (cy 0, 130, .inl (nIf f_))), ((bd 5), .inl (cy 0, 80, .inl (nIf pd_))), ((bd 6), .inl (cy 0, 16, .inl (nIf tl_))), ((bd 7), .inl (cy 2, 16, .inl (nBf is_)))] := hD
                obtain ⟨hsy3, mv2_, us2_, ic2_, hic2, hA3, ht3, hi3⟩ := lp_comma hl90 c103
                refine lv_aload_n hx hb dX8_readsCycle_116 rfl (lv_at hl 0 rfl) ?_
                refine zcWi (As := []) (rest := []) (wr := [((bd 6), .inl (cy 0, 16, .inl (nIf tl_)))]) ⟨hx, hb, hml, hown, hts⟩ (c_X8_place l D cy H.size bd um_ ln_ (j_ + 1) true f_ pd_ is_ us2_ z0_ mv2_ b_ ic2_ d_ b_ (by omega) (by omega) hpd (by omega) hi3 hA3 hsy3) (cwV 0 hts (zG_V zw_210 zw_211 zw_212 zw_5 zw_213) rfl rfl rfl zd_X8_place ⟨Nat.le_of_ble_eq_true rfl, Nat.le_of_ble_eq_true rfl⟩) hK hP hD hS hA [0, 1, 2, 4] [3] [1, 2, 3, 0, 4] rfl (by decide) rfl (by decide) (by decide) (w2 := (fun u_ : Nat × Bool × (Nat → Bool) => ([((bd 0), .inr (5, [.int (nI 0), .ref (bd 1), .ref (bd 2), .int (nI um_), .ref (bd 3), .ref (bd 4), .ref (bd 5), .int (nI ln_), .int (nI u_.1), .int (if u_.2.1 = true then 1 else 0), .ref (bd 6), .ref (bd 7), .ref (bd 8), .ref (bd 9), .ref (bd 10), .ref (bd 11), .ref (bd 12), .ref (bd 13), .ref (bd 14)])), ((bd 1), .inl (cy 0, 130, .inl (nIf f_))), ((bd 5), .inl (cy 0, 80, .inl (nIf pd_))), ((bd 6), .inl (cy 0, 16, .inl (nIf tl_))), ((bd 7), .inl (cy 2, 16, .inl (nBf u_.2.2)))] : va_W))) (fun _ => rfl) (by decide) rfl rfl rfl rfl hl.1 rfl (Nat.le_of_ble_eq_true rfl) dX8_readsCycle_117 ⟨Nat.zero_le _, Nat.zero_le _⟩ (fun r117 u117 H locs h117 hP hD hS => ?_)
                obtain ⟨j8_117, w8_117, i2_117⟩ := u117
                have h117 : PlaceR (f_ 0) pd_ z0_ ln_ (j_ + 1) mv2_ us2_ ic2_ d_ b_ is_ r117 j8_117 w8_117 i2_117 := h117
                have hP : va_P D vwCl [((bd 0), .inr (5, [.int (nI 0), .ref (bd 1), .ref (bd 2), .int (nI um_), .ref (bd 3), .ref (bd 4), .ref (bd 5), .int (nI ln_), .int (nI j8_117), .int (if w8_117 = true then 1 else 0), .ref (bd 6), .ref (bd 7), .ref (bd 8), .ref (bd 9), .ref (bd 10), .ref (bd 11), .ref (bd 12), .ref (bd 13), .ref (bd 14)])), ((bd 1), .inl (cy 0, 130, .inl (nIf f_))), ((bd 5), .inl (cy 0, 80, .inl (nIf pd_))), ((bd 6), .inl (cy 0, 16, .inl (nIf tl_))), ((bd 7), .inl (cy 2, 16, .inl (nBf i2_117)))] H := hP
                have hD : va_D zA [((bd 0), .inr (5, [.int (nI 0), .ref (bd 1), .ref (bd 2), .int (nI um_), .ref (bd 3), .ref (bd 4), .ref (bd 5), .int (nI ln_), .int (nI j8_117), .int (if w8_117 = true then 1 else 0), .ref (bd 6), .ref (bd 7), .ref (bd 8), .ref (bd 9), .ref (bd 10), .ref (bd 11), .ref (bd 12), .ref (bd 13), .ref (bd 14)])), ((bd 1), .inl (cy 0, 130, .inl (nIf f_))), ((bd 5), .inl (cy 0, 80, .inl (nIf pd_))), ((bd 6), .inl (cy 0, 16, .inl (nIf tl_))), ((bd 7), .inl (cy 2, 16, .inl (nBf i2_117)))] := hD
                obtain ⟨hj3, hj4, hn117, hy117⟩ := h117
                rcases w8_117 with _ | _
                · have hP : va_P D vwCl [((bd 0), .inr (5, [.int (nI 0), .ref (bd 1), .ref (bd 2), .int (nI um_), .ref (bd 3), .ref (bd 4), .ref (bd 5), .int (nI ln_), .int (nI j8_117), .int (nI 0), .ref (bd 6), .ref (bd 7), .ref (bd 8), .ref (bd 9), .ref (bd 10), .ref (bd 11), .ref (bd 12), .ref (bd 13), .ref (bd 14)])), ((bd 1), .inl (cy 0, 130, .inl (nIf f_))), ((bd 5), .inl (cy 0, 80, .inl (nIf pd_))), ((bd 6), .inl (cy 0, 16, .inl (nIf tl_))), ((bd 7), .inl (cy 2, 16, .inl (nBf i2_117)))] H := hP
                  have hD : va_D zA [((bd 0), .inr (5, [.int (nI 0), .ref (bd 1), .ref (bd 2), .int (nI um_), .ref (bd 3), .ref (bd 4), .ref (bd 5), .int (nI ln_), .int (nI j8_117), .int (nI 0), .ref (bd 6), .ref (bd 7), .ref (bd 8), .ref (bd 9), .ref (bd 10), .ref (bd 11), .ref (bd 12), .ref (bd 13), .ref (bd 14)])), ((bd 1), .inl (cy 0, 130, .inl (nIf f_))), ((bd 5), .inl (cy 0, 80, .inl (nIf pd_))), ((bd 6), .inl (cy 0, 16, .inl (nIf tl_))), ((bd 7), .inl (cy 2, 16, .inl (nBf i2_117)))] := hD
                  refine lv_istore_n (lv' := [(3, .int r117), (0, .ref (bd 0)), (1, .int (nI d_)), (2, .int (nI b_))]) hx hb dX8_readsCycle_120 rfl hl (by decide) rfl (fun ls hl => ?_)
                  refine lv_aload_n hx hb dX8_readsCycle_121 rfl (lv_at hl 1 rfl) ?_
                  refine va_get (D := D) (ci := 5) (v := .ref (bd 6)) (C := RX8) (T := TX8) (N := 19) hx hb hts (fun w h => List.mem_cons_of_mem _ (zinX8 w h)) hown hK.1 hP 0 rfl rfl 10 (by decide) (hts _ (List.mem_cons_of_mem _ zw_79)) (fun _ h9 => h9) rfl dX8_readsCycle_122 ?_
                  refine lv_iload_n hx hb dX8_readsCycle_125 rfl (lv_at hl 3 rfl) ?_
                  refine lv_aload_n hx hb dX8_readsCycle_126 rfl (lv_at hl 1 rfl) ?_
                  refine va_get (D := D) (ci := 5) (v := .int (nI 0)) (C := RX8) (T := TX8) (N := 19) hx hb hts (fun w h => List.mem_cons_of_mem _ (zinX8 w h)) hown hK.1 hP 0 rfl rfl 9 (by decide) (hts _ (List.mem_cons_of_mem _ zw_201)) (fun _ h9 => h9) rfl dX8_readsCycle_127 ?_
                  refine zb0_eq (a := 0) (tgt := 137) hx hb dX8_readsCycle_130 (by decide) (by decide) (fun c130 => ?_) (fun hd_ => absurd hd_ (by decide))
                  refine lv_aload_n hx hb dX8_readsCycle_137 rfl (lv_at hl 1 rfl) ?_
                  refine va_get (D := D) (ci := 5) (v := .ref (bd 6)) (C := RX8) (T := TX8) (N := 19) hx hb hts (fun w h => List.mem_cons_of_mem _ (zinX8 w h)) hown hK.1 hP 0 rfl rfl 10 (by decide) (hts _ (List.mem_cons_of_mem _ zw_79)) (fun _ h9 => h9) rfl dX8_readsCycle_138 ?_
                  refine lv_iload_n hx hb dX8_readsCycle_141 rfl (lv_at hl 3 rfl) ?_
                  refine zi_iald (v := nI (tl_ b_)) hx hb hK hP 3 rfl (by omega) (by omega) rfl dX8_readsCycle_142 ?_
                  refine zi_iast hx hb hK hP hD hS 3 rfl (by omega) (by omega) dX8_readsCycle_143 (fun H locs hP hD hS => ?_)
                  rw [upd_nIf] at hP hD
                  have hP : va_P D vwCl [((bd 0), .inr (5, [.int (nI 0), .ref (bd 1), .ref (bd 2), .int (nI um_), .ref (bd 3), .ref (bd 4), .ref (bd 5), .int (nI ln_), .int (nI j8_117), .int (nI 0), .ref (bd 6), .ref (bd 7), .ref (bd 8), .ref (bd 9), .ref (bd 10), .ref (bd 11), .ref (bd 12), .ref (bd 13), .ref (bd 14)])), ((bd 1), .inl (cy 0, 130, .inl (nIf f_))), ((bd 5), .inl (cy 0, 80, .inl (nIf pd_))), ((bd 6), .inl (cy 0, 16, .inl (nIf (uN1 tl_ b_ (tl_ b_))))), ((bd 7), .inl (cy 2, 16, .inl (nBf i2_117)))] H := hP
                  have hD : va_D zA [((bd 0), .inr (5, [.int (nI 0), .ref (bd 1), .ref (bd 2), .int (nI um_), .ref (bd 3), .ref (bd 4), .ref (bd 5), .int (nI ln_), .int (nI j8_117), .int (nI 0), .ref (bd 6), .ref (bd 7), .ref (bd 8), .ref (bd 9), .ref (bd 10), .ref (bd 11), .ref (bd 12), .ref (bd 13), .ref (bd 14)])), ((bd 1), .inl (cy 0, 130, .inl (nIf f_))), ((bd 5), .inl (cy 0, 80, .inl (nIf pd_))), ((bd 6), .inl (cy 0, 16, .inl (nIf (uN1 tl_ b_ (tl_ b_))))), ((bd 7), .inl (cy 2, 16, .inl (nBf i2_117)))] := hD
                  refine lv_aload_n hx hb dX8_readsCycle_144 rfl (lv_at hl 1 rfl) ?_
                  refine va_get (D := D) (ci := 5) (v := .int (nI 0)) (C := RX8) (T := TX8) (N := 19) hx hb hts (fun w h => List.mem_cons_of_mem _ (zinX8 w h)) hown hK.1 hP 0 rfl rfl 9 (by decide) (hts _ (List.mem_cons_of_mem _ zw_201)) (fun _ h9 => h9) rfl dX8_readsCycle_145 ?_
                  refine zb0_eq (a := 0) (tgt := 155) hx hb dX8_readsCycle_148 (by decide) (by decide) (fun c148 => ?_) (fun hd_ => absurd hd_ (by decide))
                  refine lv_iload_n hx hb dX8_readsCycle_155 rfl (lv_at hl 3 rfl) ?_
                  refine lv_istore_n (lv' := [(2, .int (nI b_)), (3, .int r117), (0, .ref (bd 0)), (1, .int (nI d_))]) hx hb dX8_readsCycle_156 rfl hl (by decide) rfl (fun ls hl => ?_)
                  refine lv_goto (tgt := 90) hx hb dX8_readsCycle_157 (by decide) ?_
                  exact ih90 j8_117 b_ false (uN1 tl_ b_ (tl_ b_)) i2_117 (by omega) (by omega) (by omega) (fun q_ => absurd q_ (by decide)) (fun _ => hn117 rfl) (by omega) _ _ hP hD hS _ (lv_sub hl [2, 3, 0] rfl)
                · obtain ⟨d2_, hd2_, er2_, hjl4, hsy4, hA4, hfr4, hch4, ei2_⟩ := hy117 rfl
                  subst er2_
                  subst ei2_
                  have hP : va_P D vwCl [((bd 0), .inr (5, [.int (nI 0), .ref (bd 1), .ref (bd 2), .int (nI um_), .ref (bd 3), .ref (bd 4), .ref (bd 5), .int (nI ln_), .int (nI j8_117), .int (nI 1), .ref (bd 6), .ref (bd 7), .ref (bd 8), .ref (bd 9), .ref (bd 10), .ref (bd 11), .ref (bd 12), .ref (bd 13), .ref (bd 14)])), ((bd 1), .inl (cy 0, 130, .inl (nIf f_))), ((bd 5), .inl (cy 0, 80, .inl (nIf pd_))), ((bd 6), .inl (cy 0, 16, .inl (nIf tl_))), ((bd 7), .inl (cy 2, 16, .inl (nBf (uB1 is_ d2_ true))))] H := hP
                  have hD : va_D zA [((bd 0), .inr (5, [.int (nI 0), .ref (bd 1), .ref (bd 2), .int (nI um_), .ref (bd 3), .ref (bd 4), .ref (bd 5), .int (nI ln_), .int (nI j8_117), .int (nI 1), .ref (bd 6), .ref (bd 7), .ref (bd 8), .ref (bd 9), .ref (bd 10), .ref (bd 11), .ref (bd 12), .ref (bd 13), .ref (bd 14)])), ((bd 1), .inl (cy 0, 130, .inl (nIf f_))), ((bd 5), .inl (cy 0, 80, .inl (nIf pd_))), ((bd 6), .inl (cy 0, 16, .inl (nIf tl_))), ((bd 7), .inl (cy 2, 16, .inl (nBf (uB1 is_ d2_ true))))] := hD
                  refine lv_istore_n (lv' := [(3, .int (nI d2_)), (0, .ref (bd 0)), (1, .int (nI d_)), (2, .int (nI b_))]) hx hb dX8_readsCycle_120 rfl hl (by decide) rfl (fun ls hl => ?_)
                  refine lv_aload_n hx hb dX8_readsCycle_121 rfl (lv_at hl 1 rfl) ?_
                  refine va_get (D := D) (ci := 5) (v := .ref (bd 6)) (C := RX8) (T := TX8) (N := 19) hx hb hts (fun w h => List.mem_cons_of_mem _ (zinX8 w h)) hown hK.1 hP 0 rfl rfl 10 (by decide) (hts _ (List.mem_cons_of_mem _ zw_79)) (fun _ h9 => h9) rfl dX8_readsCycle_122 ?_
                  refine lv_iload_n hx hb dX8_readsCycle_125 rfl (lv_at hl 3 rfl) ?_
                  refine lv_aload_n hx hb dX8_readsCycle_126 rfl (lv_at hl 1 rfl) ?_
                  refine va_get (D := D) (ci := 5) (v := .int (nI 1)) (C := RX8) (T := TX8) (N := 19) hx hb hts (fun w h => List.mem_cons_of_mem _ (zinX8 w h)) hown hK.1 hP 0 rfl rfl 9 (by decide) (hts _ (List.mem_cons_of_mem _ zw_201)) (fun _ h9 => h9) rfl dX8_readsCycle_127 ?_
                  refine zb0_eq (a := 1) (tgt := 137) hx hb dX8_readsCycle_130 (by decide) (by decide) (fun hd_ => absurd hd_ (by decide)) (fun c130 => ?_)
                  refine lv_iload_n hx hb dX8_readsCycle_133 rfl (lv_at hl 0 rfl) ?_
                  refine lv_goto (tgt := 143) hx hb dX8_readsCycle_134 (by decide) ?_
                  refine zi_iast hx hb hK hP hD hS 3 rfl (by omega) (by omega) dX8_readsCycle_143 (fun H locs hP hD hS => ?_)
                  rw [upd_nIf] at hP hD
                  have hP : va_P D vwCl [((bd 0), .inr (5, [.int (nI 0), .ref (bd 1), .ref (bd 2), .int (nI um_), .ref (bd 3), .ref (bd 4), .ref (bd 5), .int (nI ln_), .int (nI j8_117), .int (nI 1), .ref (bd 6), .ref (bd 7), .ref (bd 8), .ref (bd 9), .ref (bd 10), .ref (bd 11), .ref (bd 12), .ref (bd 13), .ref (bd 14)])), ((bd 1), .inl (cy 0, 130, .inl (nIf f_))), ((bd 5), .inl (cy 0, 80, .inl (nIf pd_))), ((bd 6), .inl (cy 0, 16, .inl (nIf (uN1 tl_ b_ d2_)))), ((bd 7), .inl (cy 2, 16, .inl (nBf (uB1 is_ d2_ true))))] H := hP
                  have hD : va_D zA [((bd 0), .inr (5, [.int (nI 0), .ref (bd 1), .ref (bd 2), .int (nI um_), .ref (bd 3), .ref (bd 4), .ref (bd 5), .int (nI ln_), .int (nI j8_117), .int (nI 1), .ref (bd 6), .ref (bd 7), .ref (bd 8), .ref (bd 9), .ref (bd 10), .ref (bd 11), .ref (bd 12), .ref (bd 13), .ref (bd 14)])), ((bd 1), .inl (cy 0, 130, .inl (nIf f_))), ((bd 5), .inl (cy 0, 80, .inl (nIf pd_))), ((bd 6), .inl (cy 0, 16, .inl (nIf (uN1 tl_ b_ d2_)))), ((bd 7), .inl (cy 2, 16, .inl (nBf (uB1 is_ d2_ true))))] := hD
                  refine lv_aload_n hx hb dX8_readsCycle_144 rfl (lv_at hl 1 rfl) ?_
                  refine va_get (D := D) (ci := 5) (v := .int (nI 1)) (C := RX8) (T := TX8) (N := 19) hx hb hts (fun w h => List.mem_cons_of_mem _ (zinX8 w h)) hown hK.1 hP 0 rfl rfl 9 (by decide) (hts _ (List.mem_cons_of_mem _ zw_201)) (fun _ h9 => h9) rfl dX8_readsCycle_145 ?_
                  refine zb0_eq (a := 1) (tgt := 155) hx hb dX8_readsCycle_148 (by decide) (by decide) (fun hd_ => absurd hd_ (by decide)) (fun c148 => ?_)
                  refine lv_iload_n hx hb dX8_readsCycle_151 rfl (lv_at hl 0 rfl) ?_
                  refine lv_goto (tgt := 156) hx hb dX8_readsCycle_152 (by decide) ?_
                  refine lv_istore_n (lv' := [(2, .int (nI d2_)), (3, .int (nI d2_)), (0, .ref (bd 0)), (1, .int (nI d_))]) hx hb dX8_readsCycle_156 rfl hl (by decide) rfl (fun ls hl => ?_)
                  refine lv_goto (tgt := 90) hx hb dX8_readsCycle_157 (by decide) ?_
                  exact ih90 j8_117 d2_ true (uN1 tl_ b_ d2_) (uB1 is_ d2_ true) (by omega) (by omega) (by omega) (fun _ => lp_next hN_ hic2 hjl4 hsy4 hA4 hfr4 hch4 ht3 hi3) (fun q_ => absurd q_ (by decide)) (by omega) _ _ hP hD hS _ (lv_sub hl [2, 3, 0] rfl)
        exact L90 (ln_ + 1 - j8_47 + 1) j8_47 d_ true tl_ (uB1 is_ d_ true) (by omega) (by omega) (by omega) (fun _ => hlp0) (fun q_ => absurd q_ (by decide)) (Nat.lt_succ_self _) _ _ hP hD hS _ (lv_sub hl [2, 1, 0] rfl)
abbrev w_X8_faultAt : List Cond := Cond.code yX8_faultAt cX8_faultAt 2 (some .int) :: zAll
abbrev r_X8_faultAt : Room := { frames := 6, cells := 0, slots := 0, locals := 132 }
theorem zd_X8_faultAt : yX8_faultAt.cls = RX8 ∧ yX8_faultAt.cls ≠ "java/lang/invoke/MethodHandle" ∧ yX8_faultAt.cls ≠ "java/lang/invoke/VarHandle" ∧ (parseMethodDescriptor yX8_faultAt.desc).map (fun d => d.parameters.length) = some 0 := by decide +kernel
set_option maxHeartbeats 4000000 in
set_option maxRecDepth 100000 in
theorem c_X8_faultAt (l : Launch) (D : va_G) (cy : Nat → ClassId) (sz : Nat) (bd : Nat → Nat) (um_ : Nat) (ln_ : Nat) (at_ : Nat) (iw_ : Bool) (f_ : Nat → Nat) (pd_ : Nat → Nat) (is_ : Nat → Bool) (tl_ : Nat → Nat) (z0_ : RS) (hN_ : f_ 0 ≤ 16) (hp : ln_ ≤ 80) (hpd : ∀ q_, q_ < ln_ → 33 ≤ pd_ q_ ∧ pd_ q_ ≤ 126) (hz : z0_.1 = 0 ∧ z0_.2.1 = stayL ∧ z0_.2.2.1 = 0) : zWi l yX8_faultAt w_X8_faultAt r_X8_faultAt D cy [((bd 0), .inr (5, [.int (nI 0), .ref (bd 1), .ref (bd 2), .int (nI um_), .ref (bd 3), .ref (bd 4), .ref (bd 5), .int (nI ln_), .int (nI at_), .int (if iw_ = true then 1 else 0), .ref (bd 6), .ref (bd 7), .ref (bd 8), .ref (bd 9), .ref (bd 10), .ref (bd 11), .ref (bd 12), .ref (bd 13), .ref (bd 14)])), ((bd 1), .inl (cy 0, 130, .inl (nIf f_))), ((bd 5), .inl (cy 0, 80, .inl (nIf pd_))), ((bd 6), .inl (cy 0, 16, .inl (nIf tl_))), ((bd 7), .inl (cy 2, 16, .inl (nBf is_)))] sz [.ref (bd 0)] (fun (r_ : Int32) (u : Nat × Bool × (Nat → Bool) × (Nat → Nat)) => r_ = (fltI (f_ 0) pd_ z0_ ln_) ∧ (fltI (f_ 0) pd_ z0_ ln_ = -6 → ∀ p_, p_ < 16 → u.2.2.2 p_ = nb (rsAt (f_ 0) pd_ z0_ ln_).2.1 p_)) (fun u : Nat × Bool × (Nat → Bool) × (Nat → Nat) => ([((bd 0), .inr (5, [.int (nI 0), .ref (bd 1), .ref (bd 2), .int (nI um_), .ref (bd 3), .ref (bd 4), .ref (bd 5), .int (nI ln_), .int (nI u.1), .int (if u.2.1 = true then 1 else 0), .ref (bd 6), .ref (bd 7), .ref (bd 8), .ref (bd 9), .ref (bd 10), .ref (bd 11), .ref (bd 12), .ref (bd 13), .ref (bd 14)])), ((bd 1), .inl (cy 0, 130, .inl (nIf f_))), ((bd 5), .inl (cy 0, 80, .inl (nIf pd_))), ((bd 6), .inl (cy 0, 16, .inl (nIf u.2.2.2))), ((bd 7), .inl (cy 2, 16, .inl (nBf u.2.2.1)))] : va_W)) := by
  refine zOfW (cc := cX8_faultAt) (maxL := 2) (ty := .int) (by decide) rfl (Nat.le_of_ble_eq_true rfl) ?_
  intro zp ze zs zm za zb zme zc hx hb hml hts hown hP hK zA hD hA Q kr ls hl
  have hS : va_S zA zs.heap zs.heap [] := va_S.rf
  have hown : zs.vm.findClass RX8 = some zm.cls := hown
  have hl : lv_has ls 2 [(0, .ref (bd 0))] := hl
  refine lv_aload_n hx hb dX8_faultAt_0 rfl (lv_at hl 0 rfl) ?_
  refine lv_iconst (v := nI 0) hx hb dX8_faultAt_1 (by decide) ?_
  refine va_put (D := D) (ci := 5) (v := .int (nI 0)) (ty := .int) (C := RX8) (T := TX8) (N := 19) hx hb hts (fun w h => List.mem_cons_of_mem _ (zinX8 w h)) tyX8 tyX8_ok nmX8 hown hK.1 hP hD hS 0 rfl rfl 8 (by decide) (hts _ (List.mem_cons_of_mem _ zw_200)) (fun _ h9 => h9) rfl (tyX8_ok 8 (by decide)) rfl rfl (Nat.le_of_ble_eq_true rfl) dX8_faultAt_2 (fun H locs hP hD hS => ?_)
  have hP : va_P D vwCl [((bd 0), .inr (5, [.int (nI 0), .ref (bd 1), .ref (bd 2), .int (nI um_), .ref (bd 3), .ref (bd 4), .ref (bd 5), .int (nI ln_), .int (nI 0), .int (if iw_ = true then 1 else 0), .ref (bd 6), .ref (bd 7), .ref (bd 8), .ref (bd 9), .ref (bd 10), .ref (bd 11), .ref (bd 12), .ref (bd 13), .ref (bd 14)])), ((bd 1), .inl (cy 0, 130, .inl (nIf f_))), ((bd 5), .inl (cy 0, 80, .inl (nIf pd_))), ((bd 6), .inl (cy 0, 16, .inl (nIf tl_))), ((bd 7), .inl (cy 2, 16, .inl (nBf is_)))] H := hP
  have hD : va_D zA [((bd 0), .inr (5, [.int (nI 0), .ref (bd 1), .ref (bd 2), .int (nI um_), .ref (bd 3), .ref (bd 4), .ref (bd 5), .int (nI ln_), .int (nI 0), .int (if iw_ = true then 1 else 0), .ref (bd 6), .ref (bd 7), .ref (bd 8), .ref (bd 9), .ref (bd 10), .ref (bd 11), .ref (bd 12), .ref (bd 13), .ref (bd 14)])), ((bd 1), .inl (cy 0, 130, .inl (nIf f_))), ((bd 5), .inl (cy 0, 80, .inl (nIf pd_))), ((bd 6), .inl (cy 0, 16, .inl (nIf tl_))), ((bd 7), .inl (cy 2, 16, .inl (nBf is_)))] := hD
  refine lv_iconst (v := nI 0) hx hb dX8_faultAt_5 (by decide) ?_
  refine lv_istore_n (lv' := [(1, .int (nI 0)), (0, .ref (bd 0))]) hx hb dX8_faultAt_6 rfl hl (by decide) rfl (fun ls hl => ?_)
  have L7 : ∀ (kf_ : Nat) (i_ : Nat) (tl_ : Nat → Nat) (is_ : Nat → Bool) (hi : i_ ≤ 16) (ht : ∀ q_, q_ < i_ → tl_ q_ = q_) (hs : ∀ q_, q_ < i_ → is_ q_ = false), 16 - i_ < kf_ → ∀ (H : Heap) (locs : List Loc), va_P D vwCl [((bd 0), .inr (5, [.int (nI 0), .ref (bd 1), .ref (bd 2), .int (nI um_), .ref (bd 3), .ref (bd 4), .ref (bd 5), .int (nI ln_), .int (nI 0), .int (if iw_ = true then 1 else 0), .ref (bd 6), .ref (bd 7), .ref (bd 8), .ref (bd 9), .ref (bd 10), .ref (bd 11), .ref (bd 12), .ref (bd 13), .ref (bd 14)])), ((bd 1), .inl (cy 0, 130, .inl (nIf f_))), ((bd 5), .inl (cy 0, 80, .inl (nIf pd_))), ((bd 6), .inl (cy 0, 16, .inl (nIf tl_))), ((bd 7), .inl (cy 2, 16, .inl (nBf is_)))] H → va_D zA [((bd 0), .inr (5, [.int (nI 0), .ref (bd 1), .ref (bd 2), .int (nI um_), .ref (bd 3), .ref (bd 4), .ref (bd 5), .int (nI ln_), .int (nI 0), .int (if iw_ = true then 1 else 0), .ref (bd 6), .ref (bd 7), .ref (bd 8), .ref (bd 9), .ref (bd 10), .ref (bd 11), .ref (bd 12), .ref (bd 13), .ref (bd 14)])), ((bd 1), .inl (cy 0, 130, .inl (nIf f_))), ((bd 5), .inl (cy 0, 80, .inl (nIf pd_))), ((bd 6), .inl (cy 0, 16, .inl (nIf tl_))), ((bd 7), .inl (cy 2, 16, .inl (nBf is_)))] → va_S zA zs.heap H locs → ∀ ls : Array Slot, lv_has ls 2 [(0, .ref (bd 0)), (1, .int (nI i_))] → W zp l ze r_X8_faultAt zs zm za zb zme zc H locs 0 0 Q (F0 zm 7 ls []) := by
    intro kf_
    induction kf_ with
    | zero => intro i_ tl_ is_ hi ht hs hk_; exact absurd hk_ (Nat.not_lt_zero _)
    | succ kf_ ih7 =>
      intro i_ tl_ is_ hi ht hs hk_ H locs hP hD hS ls hl
      refine lv_iload_n hx hb dX8_faultAt_7 rfl (lv_at hl 1 rfl) ?_
      refine lv_bipush (v := nI 16) hx hb dX8_faultAt_8 (by decide) ?_
      refine zb_ge (a := i_) (b := 16) (tgt := 33) hx hb dX8_faultAt_10 (by decide) (by omega) (by omega) (fun c10 => ?_) (fun c10 => ?_)
      · skip
        refine lv_aload_n hx hb dX8_faultAt_33 rfl (lv_at hl 0 rfl) ?_
        refine zcRi (As := []) (rest := []) ⟨hx, hb, hml, hown, hts⟩ (c_X8_letter l D cy bd um_ ln_ 0 iw_ pd_ (by omega) hpd (by omega)) (cwV 0 hts (zG_V zw_202 zw_203 zw_204 zw_5 zw_205) rfl rfl rfl zd_X8_letter ⟨Nat.le_of_ble_eq_true rfl, Nat.le_of_ble_eq_true rfl⟩) hK hP [0, 2] rfl rfl rfl rfl rfl hl.1 rfl (Nat.le_of_ble_eq_true rfl) dX8_faultAt_34 ⟨Nat.zero_le _, Nat.zero_le _⟩ (fun r34 h34 => ?_)
        subst h34
        have hL37 := ltr_lt hpd 0
        refine lv_bipush (v := nI 101) hx hb dX8_faultAt_37 (by decide) ?_
        refine zb_ne (a := ltr pd_ ln_ 0) (b := 101) (tgt := 57) hx hb dX8_faultAt_39 (by decide) (by omega) (by omega) (fun c39 => ?_) (fun c39 => ?_)
        · skip
          refine lv_aload_n hx hb dX8_faultAt_57 rfl (lv_at hl 0 rfl) ?_
          refine zcWv (As := []) (rest := []) (wr := []) ⟨hx, hb, hml, hown, hts⟩ (c_X8_readsCycle l D cy H.size bd um_ ln_ 0 iw_ f_ pd_ is_ z0_.2.2.1 tl_ z0_ z0_.2.1 z0_.1 z0_.2.2.2.1 z0_.2.2.2.2.1 z0_.2.2.2.2.2.1 z0_.2.2.2.2.2.2 (by omega) (by omega) hpd (by omega) (fun q_ hq_ => by rw [hz.2.2, Nat.zero_testBit]; exact hs q_ (by omega)) rfl (fun j_ hj_ => absurd hj_ (Nat.not_lt_zero _)) (Or.inl ⟨hz.1, c39⟩) (fun q_ hq_ => by rw [hz.2.1, nb_stay hq_]; exact ht q_ (by omega))) (cwV 0 hts (zG_V zw_206 zw_207 zw_208 zw_5 zw_209) rfl rfl rfl zd_X8_readsCycle ⟨Nat.le_of_ble_eq_true rfl, Nat.le_of_ble_eq_true rfl⟩) hK hP hD hS hA [0, 1, 2, 3, 4] [] [0, 1, 2, 3, 4] rfl (by decide) rfl (by decide) (by decide) (w2 := (fun u_ : Nat × Bool × (Nat → Bool) × (Nat → Nat) => ([((bd 0), .inr (5, [.int (nI 0), .ref (bd 1), .ref (bd 2), .int (nI um_), .ref (bd 3), .ref (bd 4), .ref (bd 5), .int (nI ln_), .int (nI u_.1), .int (if u_.2.1 = true then 1 else 0), .ref (bd 6), .ref (bd 7), .ref (bd 8), .ref (bd 9), .ref (bd 10), .ref (bd 11), .ref (bd 12), .ref (bd 13), .ref (bd 14)])), ((bd 1), .inl (cy 0, 130, .inl (nIf f_))), ((bd 5), .inl (cy 0, 80, .inl (nIf pd_))), ((bd 6), .inl (cy 0, 16, .inl (nIf u_.2.2.2))), ((bd 7), .inl (cy 2, 16, .inl (nBf u_.2.2.1)))] : va_W))) (fun _ => rfl) (by decide) rfl rfl rfl rfl hl.1 rfl (Nat.le_of_ble_eq_true rfl) dX8_faultAt_58 ⟨Nat.zero_le _, Nat.zero_le _⟩ (fun  u58 H locs h58 hP hD hS => ?_)
          obtain ⟨j8_58, w8_58, i2_58, t2_58⟩ := u58
          have h58 : CycR (f_ 0) pd_ z0_ ln_ 0 j8_58 w8_58 i2_58 t2_58 := h58
          have hP : va_P D vwCl [((bd 0), .inr (5, [.int (nI 0), .ref (bd 1), .ref (bd 2), .int (nI um_), .ref (bd 3), .ref (bd 4), .ref (bd 5), .int (nI ln_), .int (nI j8_58), .int (if w8_58 = true then 1 else 0), .ref (bd 6), .ref (bd 7), .ref (bd 8), .ref (bd 9), .ref (bd 10), .ref (bd 11), .ref (bd 12), .ref (bd 13), .ref (bd 14)])), ((bd 1), .inl (cy 0, 130, .inl (nIf f_))), ((bd 5), .inl (cy 0, 80, .inl (nIf pd_))), ((bd 6), .inl (cy 0, 16, .inl (nIf t2_58))), ((bd 7), .inl (cy 2, 16, .inl (nBf i2_58)))] H := hP
          have hD : va_D zA [((bd 0), .inr (5, [.int (nI 0), .ref (bd 1), .ref (bd 2), .int (nI um_), .ref (bd 3), .ref (bd 4), .ref (bd 5), .int (nI ln_), .int (nI j8_58), .int (if w8_58 = true then 1 else 0), .ref (bd 6), .ref (bd 7), .ref (bd 8), .ref (bd 9), .ref (bd 10), .ref (bd 11), .ref (bd 12), .ref (bd 13), .ref (bd 14)])), ((bd 1), .inl (cy 0, 130, .inl (nIf f_))), ((bd 5), .inl (cy 0, 80, .inl (nIf pd_))), ((bd 6), .inl (cy 0, 16, .inl (nIf t2_58))), ((bd 7), .inl (cy 2, 16, .inl (nBf i2_58)))] := hD
          have L61 : ∀ (kf_ : Nat) (k_ : Nat) (j_ : Nat) (w_ : Bool) (tl_ : Nat → Nat) (is_ : Nat → Bool) (hjl : j_ ≤ ln_) (hcy : CycR (f_ 0) pd_ z0_ ln_ k_ j_ w_ is_ tl_), (ln_ - j_) + w_.toNat < kf_ → ∀ (H : Heap) (locs : List Loc), va_P D vwCl [((bd 0), .inr (5, [.int (nI 0), .ref (bd 1), .ref (bd 2), .int (nI um_), .ref (bd 3), .ref (bd 4), .ref (bd 5), .int (nI ln_), .int (nI j_), .int (if w_ = true then 1 else 0), .ref (bd 6), .ref (bd 7), .ref (bd 8), .ref (bd 9), .ref (bd 10), .ref (bd 11), .ref (bd 12), .ref (bd 13), .ref (bd 14)])), ((bd 1), .inl (cy 0, 130, .inl (nIf f_))), ((bd 5), .inl (cy 0, 80, .inl (nIf pd_))), ((bd 6), .inl (cy 0, 16, .inl (nIf tl_))), ((bd 7), .inl (cy 2, 16, .inl (nBf is_)))] H → va_D zA [((bd 0), .inr (5, [.int (nI 0), .ref (bd 1), .ref (bd 2), .int (nI um_), .ref (bd 3), .ref (bd 4), .ref (bd 5), .int (nI ln_), .int (nI j_), .int (if w_ = true then 1 else 0), .ref (bd 6), .ref (bd 7), .ref (bd 8), .ref (bd 9), .ref (bd 10), .ref (bd 11), .ref (bd 12), .ref (bd 13), .ref (bd 14)])), ((bd 1), .inl (cy 0, 130, .inl (nIf f_))), ((bd 5), .inl (cy 0, 80, .inl (nIf pd_))), ((bd 6), .inl (cy 0, 16, .inl (nIf tl_))), ((bd 7), .inl (cy 2, 16, .inl (nBf is_)))] → va_S zA zs.heap H locs → ∀ ls : Array Slot, lv_has ls 2 [(0, .ref (bd 0)), (1, .int (nI i_))] → W zp l ze r_X8_faultAt zs zm za zb zme zc H locs 0 0 Q (F0 zm 61 ls []) := by
            intro kf_
            induction kf_ with
            | zero => intro k_ j_ w_ tl_ is_ hjl hcy hk_; exact absurd hk_ (Nat.not_lt_zero _)
            | succ kf_ ih61 =>
              intro k_ j_ w_ tl_ is_ hjl hcy hk_ H locs hP hD hS ls hl
              rcases w_ with _ | _
              · have hP : va_P D vwCl [((bd 0), .inr (5, [.int (nI 0), .ref (bd 1), .ref (bd 2), .int (nI um_), .ref (bd 3), .ref (bd 4), .ref (bd 5), .int (nI ln_), .int (nI j_), .int (nI 0), .ref (bd 6), .ref (bd 7), .ref (bd 8), .ref (bd 9), .ref (bd 10), .ref (bd 11), .ref (bd 12), .ref (bd 13), .ref (bd 14)])), ((bd 1), .inl (cy 0, 130, .inl (nIf f_))), ((bd 5), .inl (cy 0, 80, .inl (nIf pd_))), ((bd 6), .inl (cy 0, 16, .inl (nIf tl_))), ((bd 7), .inl (cy 2, 16, .inl (nBf is_)))] H := hP
                have hD : va_D zA [((bd 0), .inr (5, [.int (nI 0), .ref (bd 1), .ref (bd 2), .int (nI um_), .ref (bd 3), .ref (bd 4), .ref (bd 5), .int (nI ln_), .int (nI j_), .int (nI 0), .ref (bd 6), .ref (bd 7), .ref (bd 8), .ref (bd 9), .ref (bd 10), .ref (bd 11), .ref (bd 12), .ref (bd 13), .ref (bd 14)])), ((bd 1), .inl (cy 0, 130, .inl (nIf f_))), ((bd 5), .inl (cy 0, 80, .inl (nIf pd_))), ((bd 6), .inl (cy 0, 16, .inl (nIf tl_))), ((bd 7), .inl (cy 2, 16, .inl (nBf is_)))] := hD
                have hf61 := hcy.2.2.1 rfl
                refine lv_aload_n hx hb dX8_faultAt_61 rfl (lv_at hl 0 rfl) ?_
                refine va_get (D := D) (ci := 5) (v := .int (nI 0)) (C := RX8) (T := TX8) (N := 19) hx hb hts (fun w h => List.mem_cons_of_mem _ (zinX8 w h)) hown hK.1 hP 0 rfl rfl 9 (by decide) (hts _ (List.mem_cons_of_mem _ zw_201)) (fun _ h9 => h9) rfl dX8_faultAt_62 ?_
                refine zb0_eq (a := 0) (tgt := 86) hx hb dX8_faultAt_65 (by decide) (by decide) (fun c65 => ?_) (fun hd_ => absurd hd_ (by decide))
                refine lv_aload_n hx hb dX8_faultAt_86 rfl (lv_at hl 0 rfl) ?_
                refine va_get (D := D) (ci := 5) (v := .int (nI 0)) (C := RX8) (T := TX8) (N := 19) hx hb hts (fun w h => List.mem_cons_of_mem _ (zinX8 w h)) hown hK.1 hP 0 rfl rfl 9 (by decide) (hts _ (List.mem_cons_of_mem _ zw_201)) (fun _ h9 => h9) rfl dX8_faultAt_87 ?_
                refine zb0_eq (a := 0) (tgt := 98) hx hb dX8_faultAt_90 (by decide) (by decide) (fun c90 => ?_) (fun hd_ => absurd hd_ (by decide))
                refine lv_aload_n hx hb dX8_faultAt_98 rfl (lv_at hl 0 rfl) ?_
                refine va_get (D := D) (ci := 5) (v := .int (nI j_)) (C := RX8) (T := TX8) (N := 19) hx hb hts (fun w h => List.mem_cons_of_mem _ (zinX8 w h)) hown hK.1 hP 0 rfl rfl 8 (by decide) (hts _ (List.mem_cons_of_mem _ zw_200)) (fun _ h9 => h9) rfl dX8_faultAt_99 ?_
                exact kr _ (j_, false, is_, tl_) _ _ _ _ dX8_faultAt_102 (vp_nar_int _) ⟨hf61.symm, fun q_ => by rw [hf61] at q_; exact absurd (congrArg Int32.toInt q_) (by rw [nI_toInt (by omega)]; show ¬ (j_ : Int) = -6; omega)⟩ hP hD hS
              · have hP : va_P D vwCl [((bd 0), .inr (5, [.int (nI 0), .ref (bd 1), .ref (bd 2), .int (nI um_), .ref (bd 3), .ref (bd 4), .ref (bd 5), .int (nI ln_), .int (nI j_), .int (nI 1), .ref (bd 6), .ref (bd 7), .ref (bd 8), .ref (bd 9), .ref (bd 10), .ref (bd 11), .ref (bd 12), .ref (bd 13), .ref (bd 14)])), ((bd 1), .inl (cy 0, 130, .inl (nIf f_))), ((bd 5), .inl (cy 0, 80, .inl (nIf pd_))), ((bd 6), .inl (cy 0, 16, .inl (nIf tl_))), ((bd 7), .inl (cy 2, 16, .inl (nBf is_)))] H := hP
                have hD : va_D zA [((bd 0), .inr (5, [.int (nI 0), .ref (bd 1), .ref (bd 2), .int (nI um_), .ref (bd 3), .ref (bd 4), .ref (bd 5), .int (nI ln_), .int (nI j_), .int (nI 1), .ref (bd 6), .ref (bd 7), .ref (bd 8), .ref (bd 9), .ref (bd 10), .ref (bd 11), .ref (bd 12), .ref (bd 13), .ref (bd 14)])), ((bd 1), .inl (cy 0, 130, .inl (nIf f_))), ((bd 5), .inl (cy 0, 80, .inl (nIf pd_))), ((bd 6), .inl (cy 0, 16, .inl (nIf tl_))), ((bd 7), .inl (cy 2, 16, .inl (nBf is_)))] := hD
                have hy61 := hcy.2.2.2 rfl
                have hk61 : true.toNat = 1 := rfl
                refine lv_aload_n hx hb dX8_faultAt_61 rfl (lv_at hl 0 rfl) ?_
                refine va_get (D := D) (ci := 5) (v := .int (nI 1)) (C := RX8) (T := TX8) (N := 19) hx hb hts (fun w h => List.mem_cons_of_mem _ (zinX8 w h)) hown hK.1 hP 0 rfl rfl 9 (by decide) (hts _ (List.mem_cons_of_mem _ zw_201)) (fun _ h9 => h9) rfl dX8_faultAt_62 ?_
                refine zb0_eq (a := 1) (tgt := 86) hx hb dX8_faultAt_65 (by decide) (by decide) (fun hd_ => absurd hd_ (by decide)) (fun c65 => ?_)
                refine lv_aload_n hx hb dX8_faultAt_68 rfl (lv_at hl 0 rfl) ?_
                refine va_get (D := D) (ci := 5) (v := .int (nI j_)) (C := RX8) (T := TX8) (N := 19) hx hb hts (fun w h => List.mem_cons_of_mem _ (zinX8 w h)) hown hK.1 hP 0 rfl rfl 8 (by decide) (hts _ (List.mem_cons_of_mem _ zw_200)) (fun _ h9 => h9) rfl dX8_faultAt_69 ?_
                refine lv_aload_n hx hb dX8_faultAt_72 rfl (lv_at hl 0 rfl) ?_
                refine va_get (D := D) (ci := 5) (v := .int (nI ln_)) (C := RX8) (T := TX8) (N := 19) hx hb hts (fun w h => List.mem_cons_of_mem _ (zinX8 w h)) hown hK.1 hP 0 rfl rfl 7 (by decide) (hts _ (List.mem_cons_of_mem _ zw_195)) (fun _ h9 => h9) rfl dX8_faultAt_73 ?_
                refine zb_ge (a := j_) (b := ln_) (tgt := 86) hx hb dX8_faultAt_76 (by decide) (by omega) (by omega) (fun c76 => ?_) (fun c76 => ?_)
                · skip
                  refine lv_aload_n hx hb dX8_faultAt_86 rfl (lv_at hl 0 rfl) ?_
                  refine va_get (D := D) (ci := 5) (v := .int (nI 1)) (C := RX8) (T := TX8) (N := 19) hx hb hts (fun w h => List.mem_cons_of_mem _ (zinX8 w h)) hown hK.1 hP 0 rfl rfl 9 (by decide) (hts _ (List.mem_cons_of_mem _ zw_201)) (fun _ h9 => h9) rfl dX8_faultAt_87 ?_
                  refine zb0_eq (a := 1) (tgt := 98) hx hb dX8_faultAt_90 (by decide) (by decide) (fun hd_ => absurd hd_ (by decide)) (fun c90 => ?_)
                  have ej_ : j_ = ln_ := by omega
                  have hfl := fl_cyc (k := k_) (is2 := is_) (t2 := tl_) (ej_ ▸ hcy)
                  refine lv_bipush (v := (-6)) hx hb dX8_faultAt_93 (by decide) ?_
                  refine lv_goto (tgt := 102) hx hb dX8_faultAt_95 (by decide) ?_
                  exact kr _ (j_, true, is_, tl_) _ _ _ _ dX8_faultAt_102 (vp_nar_int _) ⟨hfl.1.symm, fun _ => hfl.2⟩ hP hD hS
                · skip
                  obtain ⟨hkj, hsy, mv_, us_, dg_, ic_, fi_, la_, hAs, htl, his⟩ := hy61
                  refine lv_aload_n hx hb dX8_faultAt_79 rfl (lv_at hl 0 rfl) ?_
                  refine zcWv (As := []) (rest := []) (wr := []) ⟨hx, hb, hml, hown, hts⟩ (c_X8_readsCycle l D cy H.size bd um_ ln_ j_ true f_ pd_ is_ us_ tl_ z0_ mv_ 4 dg_ ic_ fi_ la_ (by omega) (by omega) hpd (by omega) his hAs hsy (Or.inr ⟨rfl, by omega⟩) htl) (cwV 0 hts (zG_V zw_206 zw_207 zw_208 zw_5 zw_209) rfl rfl rfl zd_X8_readsCycle ⟨Nat.le_of_ble_eq_true rfl, Nat.le_of_ble_eq_true rfl⟩) hK hP hD hS hA [0, 1, 2, 3, 4] [] [0, 1, 2, 3, 4] rfl (by decide) rfl (by decide) (by decide) (w2 := (fun u_ : Nat × Bool × (Nat → Bool) × (Nat → Nat) => ([((bd 0), .inr (5, [.int (nI 0), .ref (bd 1), .ref (bd 2), .int (nI um_), .ref (bd 3), .ref (bd 4), .ref (bd 5), .int (nI ln_), .int (nI u_.1), .int (if u_.2.1 = true then 1 else 0), .ref (bd 6), .ref (bd 7), .ref (bd 8), .ref (bd 9), .ref (bd 10), .ref (bd 11), .ref (bd 12), .ref (bd 13), .ref (bd 14)])), ((bd 1), .inl (cy 0, 130, .inl (nIf f_))), ((bd 5), .inl (cy 0, 80, .inl (nIf pd_))), ((bd 6), .inl (cy 0, 16, .inl (nIf u_.2.2.2))), ((bd 7), .inl (cy 2, 16, .inl (nBf u_.2.2.1)))] : va_W))) (fun _ => rfl) (by decide) rfl rfl rfl rfl hl.1 rfl (Nat.le_of_ble_eq_true rfl) dX8_faultAt_80 ⟨Nat.zero_le _, Nat.zero_le _⟩ (fun  u80 H locs h80 hP hD hS => ?_)
                  obtain ⟨j8_80, w8_80, i2_80, t2_80⟩ := u80
                  have h80 : CycR (f_ 0) pd_ z0_ ln_ j_ j8_80 w8_80 i2_80 t2_80 := h80
                  have hP : va_P D vwCl [((bd 0), .inr (5, [.int (nI 0), .ref (bd 1), .ref (bd 2), .int (nI um_), .ref (bd 3), .ref (bd 4), .ref (bd 5), .int (nI ln_), .int (nI j8_80), .int (if w8_80 = true then 1 else 0), .ref (bd 6), .ref (bd 7), .ref (bd 8), .ref (bd 9), .ref (bd 10), .ref (bd 11), .ref (bd 12), .ref (bd 13), .ref (bd 14)])), ((bd 1), .inl (cy 0, 130, .inl (nIf f_))), ((bd 5), .inl (cy 0, 80, .inl (nIf pd_))), ((bd 6), .inl (cy 0, 16, .inl (nIf t2_80))), ((bd 7), .inl (cy 2, 16, .inl (nBf i2_80)))] H := hP
                  have hD : va_D zA [((bd 0), .inr (5, [.int (nI 0), .ref (bd 1), .ref (bd 2), .int (nI um_), .ref (bd 3), .ref (bd 4), .ref (bd 5), .int (nI ln_), .int (nI j8_80), .int (if w8_80 = true then 1 else 0), .ref (bd 6), .ref (bd 7), .ref (bd 8), .ref (bd 9), .ref (bd 10), .ref (bd 11), .ref (bd 12), .ref (bd 13), .ref (bd 14)])), ((bd 1), .inl (cy 0, 130, .inl (nIf f_))), ((bd 5), .inl (cy 0, 80, .inl (nIf pd_))), ((bd 6), .inl (cy 0, 16, .inl (nIf t2_80))), ((bd 7), .inl (cy 2, 16, .inl (nBf i2_80)))] := hD
                  rcases w8_80 with _ | _
                  · have hP : va_P D vwCl [((bd 0), .inr (5, [.int (nI 0), .ref (bd 1), .ref (bd 2), .int (nI um_), .ref (bd 3), .ref (bd 4), .ref (bd 5), .int (nI ln_), .int (nI j8_80), .int (nI 0), .ref (bd 6), .ref (bd 7), .ref (bd 8), .ref (bd 9), .ref (bd 10), .ref (bd 11), .ref (bd 12), .ref (bd 13), .ref (bd 14)])), ((bd 1), .inl (cy 0, 130, .inl (nIf f_))), ((bd 5), .inl (cy 0, 80, .inl (nIf pd_))), ((bd 6), .inl (cy 0, 16, .inl (nIf t2_80))), ((bd 7), .inl (cy 2, 16, .inl (nBf i2_80)))] H := hP
                    have hD : va_D zA [((bd 0), .inr (5, [.int (nI 0), .ref (bd 1), .ref (bd 2), .int (nI um_), .ref (bd 3), .ref (bd 4), .ref (bd 5), .int (nI ln_), .int (nI j8_80), .int (nI 0), .ref (bd 6), .ref (bd 7), .ref (bd 8), .ref (bd 9), .ref (bd 10), .ref (bd 11), .ref (bd 12), .ref (bd 13), .ref (bd 14)])), ((bd 1), .inl (cy 0, 130, .inl (nIf f_))), ((bd 5), .inl (cy 0, 80, .inl (nIf pd_))), ((bd 6), .inl (cy 0, 16, .inl (nIf t2_80))), ((bd 7), .inl (cy 2, 16, .inl (nBf i2_80)))] := hD
                    have hk83 : false.toNat = 0 := rfl
                    have hj83 := h80.1
                    have hl83 := h80.2.1
                    refine lv_goto (tgt := 61) hx hb dX8_faultAt_83 (by decide) ?_
                    exact ih61 j_ j8_80 false t2_80 i2_80 (by omega) h80 (by omega) _ _ hP hD hS _ (lv_sub hl [0, 1] rfl)
                  · have hP : va_P D vwCl [((bd 0), .inr (5, [.int (nI 0), .ref (bd 1), .ref (bd 2), .int (nI um_), .ref (bd 3), .ref (bd 4), .ref (bd 5), .int (nI ln_), .int (nI j8_80), .int (nI 1), .ref (bd 6), .ref (bd 7), .ref (bd 8), .ref (bd 9), .ref (bd 10), .ref (bd 11), .ref (bd 12), .ref (bd 13), .ref (bd 14)])), ((bd 1), .inl (cy 0, 130, .inl (nIf f_))), ((bd 5), .inl (cy 0, 80, .inl (nIf pd_))), ((bd 6), .inl (cy 0, 16, .inl (nIf t2_80))), ((bd 7), .inl (cy 2, 16, .inl (nBf i2_80)))] H := hP
                    have hD : va_D zA [((bd 0), .inr (5, [.int (nI 0), .ref (bd 1), .ref (bd 2), .int (nI um_), .ref (bd 3), .ref (bd 4), .ref (bd 5), .int (nI ln_), .int (nI j8_80), .int (nI 1), .ref (bd 6), .ref (bd 7), .ref (bd 8), .ref (bd 9), .ref (bd 10), .ref (bd 11), .ref (bd 12), .ref (bd 13), .ref (bd 14)])), ((bd 1), .inl (cy 0, 130, .inl (nIf f_))), ((bd 5), .inl (cy 0, 80, .inl (nIf pd_))), ((bd 6), .inl (cy 0, 16, .inl (nIf t2_80))), ((bd 7), .inl (cy 2, 16, .inl (nBf i2_80)))] := hD
                    have hk83 : true.toNat = 1 := rfl
                    have hj83 := (h80.2.2.2 rfl).1
                    have hl83 := h80.2.1
                    refine lv_goto (tgt := 61) hx hb dX8_faultAt_83 (by decide) ?_
                    exact ih61 j_ j8_80 true t2_80 i2_80 (by omega) h80 (by omega) _ _ hP hD hS _ (lv_sub hl [0, 1] rfl)
          exact L61 ((ln_ - j8_58) + w8_58.toNat + 1) 0 j8_58 w8_58 t2_58 i2_58 h58.2.1 h58 (Nat.lt_succ_self _) _ _ hP hD hS _ (lv_sub hl [0, 1] rfl)
        · skip
          refine lv_aload_n hx hb dX8_faultAt_42 rfl (lv_at hl 0 rfl) ?_
          refine va_get (D := D) (ci := 5) (v := .int (nI ln_)) (C := RX8) (T := TX8) (N := 19) hx hb hts (fun w h => List.mem_cons_of_mem _ (zinX8 w h)) hown hK.1 hP 0 rfl rfl 7 (by decide) (hts _ (List.mem_cons_of_mem _ zw_195)) (fun _ h9 => h9) rfl dX8_faultAt_43 ?_
          refine lv_iconst (v := nI 1) hx hb dX8_faultAt_46 (by decide) ?_
          refine zb_ne (a := ln_) (b := 1) (tgt := 55) hx hb dX8_faultAt_47 (by decide) (by omega) (by omega) (fun c47 => ?_) (fun c47 => ?_)
          · skip
            refine lv_iconst (v := nI 1) hx hb dX8_faultAt_55 (by decide) ?_
            exact kr _ (0, iw_, is_, tl_) _ _ _ _ dX8_faultAt_56 (vp_nar_int _) ⟨(fl_e2 hz.1 c39 c47).symm, fun q_ => by rw [fl_e2 hz.1 c39 c47] at q_; exact absurd q_ (by decide)⟩ hP hD hS
          · skip
            refine lv_bipush (v := (-6)) hx hb dX8_faultAt_50 (by decide) ?_
            refine lv_goto (tgt := 56) hx hb dX8_faultAt_52 (by decide) ?_
            exact kr _ (0, iw_, is_, tl_) _ _ _ _ dX8_faultAt_56 (vp_nar_int _) ⟨(fl_e1 hz.1 c39 c47).1.symm, fun _ q_ hq_ => by rw [(fl_e1 (n := f_ 0) hz.1 c39 c47).2, hz.2.1, nb_stay hq_]; exact ht q_ (by omega)⟩ hP hD hS
      · skip
        refine lv_aload_n hx hb dX8_faultAt_13 rfl (lv_at hl 0 rfl) ?_
        refine va_get (D := D) (ci := 5) (v := .ref (bd 6)) (C := RX8) (T := TX8) (N := 19) hx hb hts (fun w h => List.mem_cons_of_mem _ (zinX8 w h)) hown hK.1 hP 0 rfl rfl 10 (by decide) (hts _ (List.mem_cons_of_mem _ zw_79)) (fun _ h9 => h9) rfl dX8_faultAt_14 ?_
        refine lv_iload_n hx hb dX8_faultAt_17 rfl (lv_at hl 1 rfl) ?_
        refine lv_iload_n hx hb dX8_faultAt_18 rfl (lv_at hl 1 rfl) ?_
        refine zi_iast hx hb hK hP hD hS 3 rfl (by omega) (by omega) dX8_faultAt_19 (fun H locs hP hD hS => ?_)
        rw [upd_nIf] at hP hD
        have hP : va_P D vwCl [((bd 0), .inr (5, [.int (nI 0), .ref (bd 1), .ref (bd 2), .int (nI um_), .ref (bd 3), .ref (bd 4), .ref (bd 5), .int (nI ln_), .int (nI 0), .int (if iw_ = true then 1 else 0), .ref (bd 6), .ref (bd 7), .ref (bd 8), .ref (bd 9), .ref (bd 10), .ref (bd 11), .ref (bd 12), .ref (bd 13), .ref (bd 14)])), ((bd 1), .inl (cy 0, 130, .inl (nIf f_))), ((bd 5), .inl (cy 0, 80, .inl (nIf pd_))), ((bd 6), .inl (cy 0, 16, .inl (nIf (uN1 tl_ i_ i_)))), ((bd 7), .inl (cy 2, 16, .inl (nBf is_)))] H := hP
        have hD : va_D zA [((bd 0), .inr (5, [.int (nI 0), .ref (bd 1), .ref (bd 2), .int (nI um_), .ref (bd 3), .ref (bd 4), .ref (bd 5), .int (nI ln_), .int (nI 0), .int (if iw_ = true then 1 else 0), .ref (bd 6), .ref (bd 7), .ref (bd 8), .ref (bd 9), .ref (bd 10), .ref (bd 11), .ref (bd 12), .ref (bd 13), .ref (bd 14)])), ((bd 1), .inl (cy 0, 130, .inl (nIf f_))), ((bd 5), .inl (cy 0, 80, .inl (nIf pd_))), ((bd 6), .inl (cy 0, 16, .inl (nIf (uN1 tl_ i_ i_)))), ((bd 7), .inl (cy 2, 16, .inl (nBf is_)))] := hD
        refine lv_aload_n hx hb dX8_faultAt_20 rfl (lv_at hl 0 rfl) ?_
        refine va_get (D := D) (ci := 5) (v := .ref (bd 7)) (C := RX8) (T := TX8) (N := 19) hx hb hts (fun w h => List.mem_cons_of_mem _ (zinX8 w h)) hown hK.1 hP 0 rfl rfl 11 (by decide) (hts _ (List.mem_cons_of_mem _ zw_80)) (fun _ h9 => h9) rfl dX8_faultAt_21 ?_
        refine lv_iload_n hx hb dX8_faultAt_24 rfl (lv_at hl 1 rfl) ?_
        refine lv_iconst (v := nI 0) hx hb dX8_faultAt_25 (by decide) ?_
        refine zi_zast hx hb hK hP hD hS 4 rfl (by omega) (by omega) rfl dX8_faultAt_26 (fun H locs hP hD hS => ?_)
        rw [upd_nB0] at hP hD
        have hP : va_P D vwCl [((bd 0), .inr (5, [.int (nI 0), .ref (bd 1), .ref (bd 2), .int (nI um_), .ref (bd 3), .ref (bd 4), .ref (bd 5), .int (nI ln_), .int (nI 0), .int (if iw_ = true then 1 else 0), .ref (bd 6), .ref (bd 7), .ref (bd 8), .ref (bd 9), .ref (bd 10), .ref (bd 11), .ref (bd 12), .ref (bd 13), .ref (bd 14)])), ((bd 1), .inl (cy 0, 130, .inl (nIf f_))), ((bd 5), .inl (cy 0, 80, .inl (nIf pd_))), ((bd 6), .inl (cy 0, 16, .inl (nIf (uN1 tl_ i_ i_)))), ((bd 7), .inl (cy 2, 16, .inl (nBf (uB1 is_ i_ false))))] H := hP
        have hD : va_D zA [((bd 0), .inr (5, [.int (nI 0), .ref (bd 1), .ref (bd 2), .int (nI um_), .ref (bd 3), .ref (bd 4), .ref (bd 5), .int (nI ln_), .int (nI 0), .int (if iw_ = true then 1 else 0), .ref (bd 6), .ref (bd 7), .ref (bd 8), .ref (bd 9), .ref (bd 10), .ref (bd 11), .ref (bd 12), .ref (bd 13), .ref (bd 14)])), ((bd 1), .inl (cy 0, 130, .inl (nIf f_))), ((bd 5), .inl (cy 0, 80, .inl (nIf pd_))), ((bd 6), .inl (cy 0, 16, .inl (nIf (uN1 tl_ i_ i_)))), ((bd 7), .inl (cy 2, 16, .inl (nBf (uB1 is_ i_ false))))] := hD
        refine lv_iinc (v := nI (i_ + 1)) (lv' := [(1, .int (nI (i_ + 1))), (0, .ref (bd 0))]) hx hb dX8_faultAt_27 hl (k := 1) rfl (nI_1 _) (by decide) rfl (fun ls hl => ?_)
        refine lv_goto (tgt := 7) hx hb dX8_faultAt_30 (by decide) ?_
        exact ih7 (i_ + 1) (uN1 tl_ i_ i_) (uB1 is_ i_ false) (by omega) (fun q_ hq_ => by by_cases e_ : q_ = i_; subst e_; exact uN1_s _ _ _; rw [uN1_n _ e_]; exact ht q_ (by omega)) (fun q_ hq_ => by by_cases e_ : q_ = i_; subst e_; exact uB1_s _ _ _; rw [uB1_n _ e_]; exact hs q_ (by omega)) (by omega) _ _ hP hD hS _ (lv_sub hl [1, 0] rfl)
  exact L7 (16 - 0 + 1) 0 tl_ is_ (Nat.zero_le _) (fun q_ hq_ => absurd hq_ (Nat.not_lt_zero _)) (fun q_ hq_ => absurd hq_ (Nat.not_lt_zero _)) (Nat.lt_succ_self _) _ _ hP hD hS _ (lv_sub hl [1, 0] rfl)

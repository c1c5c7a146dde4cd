/-! the law reads its script -/
abbrev w_L_cell : List Cond := Cond.code yL_cell cL_cell 2 (some .int) :: zAll
abbrev r_L_cell : Room := { frames := 0, cells := 0, slots := 0, locals := 0 }
theorem zd_L_cell : yL_cell.cls ≠ "java/lang/invoke/MethodHandle" ∧ yL_cell.cls ≠ "java/lang/invoke/VarHandle" ∧ (parseMethodDescriptor yL_cell.desc).map (fun d => d.parameters.length) = some 2 := by decide +kernel
def zPx (b L : Nat) (xs : Nat → Int32) (av : List Value) : Array Value → State → Prop := va_Pc av (fun U => va_X b L xs U U.heap)
theorem zPx_blind {b L : Nat} {xs : Nat → Int32} {av : List Value} : FrameBlind (zPx b L xs av) := fun a U g mk q => ⟨q.1, va_X.moved (u := U) (U := U.calling g mk a) (Vm.Alike.refl U.vm) q.2⟩
theorem va_X_lt {b L : Nat} {xs : Nat → Int32} {U : State} {H : Heap} (h : va_X b L xs U H) : b < H.size := by
  obtain ⟨scr, h1, _⟩ := h
  exact (Array.getElem?_eq_some_iff.mp h1).1
set_option maxHeartbeats 4000000 in
set_option maxRecDepth 100000 in
theorem c_L_cell (l : Launch) (b L : Nat) (xs : Nat → Int32) (k : Nat) (hk : k < 64) (hL : L < 2 ^ 31) : Met l yL_cell w_L_cell r_L_cell (zPx b L xs [.ref b, .int (nI k)]) (vp_Si (fun _ => True)) 0 0 (fun _ => False) := by
  refine Met.ofW (cc := cL_cell) (maxL := 2) (ret := (some .int)) (by decide) rfl ?_
  intro zp ze zs zm za zb zme zc s1 B hml hv
  obtain ⟨rfl, hX⟩ := hv
  have hx := B.exec
  have hb := B.bytes
  have hl := lv_entry [.ref b, .int (nI k)] (n := 2) (Nat.le_of_ble_eq_true rfl)
  rw [lg_entry_eq]
  generalize (lg_sl [.ref b, .int (nI k)] ++ List.replicate (2 - (lg_sl [.ref b, .int (nI k)]).length) Slot.unset).toArray = ls at hl ⊢
  have hl : lv_has ls 2 [(0, .ref b), (1, .int (nI k))] := hl
  have hbl := va_X_lt hX
  have hS : va_S (fun _ => False) zs.heap zs.heap [] := va_S.rf
  have key : ∀ (Q : State → Prop), (∀ (v : Int32) (ls : Array Slot), W zp l ze r_L_cell zs zm [Value.ref b, Value.int (nI k)].toArray zb zme zc zs.heap [] 0 0 Q (F0 zm 24 ls [.int v])) → W zp l ze r_L_cell zs zm [Value.ref b, Value.int (nI k)].toArray zb zme zc zs.heap [] 0 0 Q (F0 zm 0 ls []) := by
    intro Q ret
    refine lv_iload_n hx hb dL_cell_0 rfl (lv_at hl 1 rfl) ?_
    refine lv_aload_n hx hb dL_cell_1 rfl (lv_at hl 0 rfl) ?_
    refine va_slen hx hb hX hbl (fun q => q) hS dL_cell_2 ?_
    refine zi_top (v := nI L) rfl ?_
    refine zb_ge (a := k) (b := L) (tgt := 12) hx hb dL_cell_3 (by decide) (by omega) (by omega) (fun c3 => ?_) (fun c3 => ?_)
    · refine lv_sipush (v := nI 7919) hx hb dL_cell_12 (by decide) ?_
      refine lv_iload_n hx hb dL_cell_15 rfl (lv_at hl 1 rfl) ?_
      refine lv_iconst (v := nI 3) hx hb dL_cell_16 (by decide) ?_
      refine zi_add (v := nI (k + 3)) hx hb dL_cell_17 (nI_add _ _) ?_
      refine zi_mul (v := nI (7919 * (k + 3))) hx hb dL_cell_18 (pk_mul _ _) ?_
      refine lv_iload_n hx hb dL_cell_19 rfl (lv_at hl 1 rfl) ?_
      refine lv_bipush (v := nI 11) hx hb dL_cell_20 (by decide) ?_
      refine zi_add (v := nI (k + 11)) hx hb dL_cell_22 (nI_add _ _) ?_
      refine zi_mul (v := nI (7919 * (k + 3) * (k + 11))) hx hb dL_cell_23 (pk_mul _ _) ?_
      exact ret _ ls
    · refine lv_aload_n hx hb dL_cell_6 rfl (lv_at hl 0 rfl) ?_
      refine lv_iload_n hx hb dL_cell_7 rfl (lv_at hl 1 rfl) ?_
      refine zi_sld hx hb hX hbl (fun q => q) hS c3 (by omega) dL_cell_8 ?_
      refine lv_goto (tgt := 24) hx hb dL_cell_9 (by decide) ?_
      exact ret _ ls
  exact key _ (fun v ls => W.zret B.exec B.bytes B.returns (vp_nar_int v) (fun t ht _ => ⟨v, rfl, trivial, ht⟩) (fun q hq => absurd hq List.not_mem_nil) dL_cell_24 B.notSynchronized)

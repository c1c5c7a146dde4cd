set_option maxHeartbeats 4000000 in
set_option maxRecDepth 100000 in
theorem law_firstStep {p : Program} {l : Launch} {e : Env} {s : State} {m : MethodId} {below : List Frame} {meth : Method} {c : Code} {b L : Nat} {xs : Nat → Int32} {D : va_G} {cy : Nat → ClassId} {ad bd : Nat → Nat} {zA : Nat → Prop} {cells slots : Nat} {Q : State → Prop} (hx : p.tables.exec = Jvm.exec) (hb : c.code = cL_law) (hml : c.maxLocals = 4) (hts : ∀ w ∈ w_law, w.before #[Value.ref b] s = true) (hown : s.vm.findClass RL = some m.cls) (hX : va_X b L xs s s.heap) (hbl : b < s.heap.size) (hbA : ¬ zA b) (hK : zK D cy s) (hA : ∀ q : Nat, s.heap.size ≤ q → zA q) (hcs : cells ≤ room_1.cells ∧ slots ≤ room_1.slots) (hL : L ≤ 2048) {i_ : Nat} (hi : i_ + 4 ≤ L) {H : Heap} {locs : List Loc} (inv : LInv D cy zA s.heap ad bd i_ H locs) (next : ∀ (H : Heap) (locs : List Loc), LInv D cy zA s.heap ad bd (i_ + 4) H locs → ∀ ls : Array Slot, lv_has ls 4 [(0, .ref b), (1, .ref (ad 0)), (2, .ref (bd 0)), (3, .int (nI i_))] → W p l e room_1 s m #[Value.ref b] below meth c H locs cells slots Q (F0 m 897 ls [])) : ∀ ls : Array Slot, lv_has ls 4 [(0, .ref b), (1, .ref (ad 0)), (2, .ref (bd 0)), (3, .int (nI i_))] → W p l e room_1 s m #[Value.ref b] below meth c H locs cells slots Q (F0 m 746 ls []) := by
  intro ls hl
  obtain ⟨m_, s_, pl_, pd_, c_, rn_, z_, f_, u_, l_, at_, iw_, tl_, is_, o1_, o2_, o3_, cc_, nx_, sb_, lc_, ⟨hok, hM, hSl, hpdk, hrdk⟩, hP, hD, hS⟩ := inv
  have hw := hok.1
  have hX6 := hok.2.1
  have hU6 := hok.2.2
  have hp := hpdk.1
  have hpd := hpdk.2
  have hrd := hrdk.1
  have hric2 := hrdk.2
  refine lv_aload_n hx hb dL_law_746 rfl (lv_at hl 1 rfl) ?_
  refine zcRi (As := []) (rest := []) ⟨hx, hb, hml, hown, hts⟩ (c_X7_firstStep l D cy ad m_ pl_ hw) (cwV 0 hts (zG_V zw_692 zw_693 zw_694 zw_2 zw_695) rfl rfl rfl zd_X7_firstStep ⟨(Nat.le_of_ble_eq_true rfl), (Nat.le_of_ble_eq_true rfl)⟩) hK hP [0, 1] rfl rfl rfl rfl rfl hl.1 rfl (Nat.le_of_ble_eq_true rfl) dL_law_747 hcs (fun r747 h747 => ?_)
  subst h747
  refine lv_aload_n hx hb dL_law_750 rfl (lv_at hl 2 rfl) ?_
  refine zcWi (As := []) (rest := [.int (firS (mP m_) (mN m_))]) (wr := [0, 1, 2, 3, 4, 5, 6, 7, 8, 9, 10, 11, 12, 13, 14, 15, 16, 17, 18, 19, 20, 21, 22, 23, 24, 25, 26, 27, 28, 31, 32, 33, 34, 35, 36, 38, 39, 42, 43].filterMap (fun i => (LW ad bd cy m_ s_ pl_ pd_ c_ rn_ z_ (mU m_) pl_ pd_ f_ u_ l_ s_.2 at_ iw_ tl_ is_ o1_ o2_ o3_ cc_ nx_ sb_ lc_)[i]?)) ⟨hx, hb, hml, hown, hts⟩ (c_X8_firstStep l D cy H.size bd (mU m_) pl_ at_ iw_ f_ m_ o1_ cc_ nx_ hw hM.1) (cwV 0 hts (zG_V zw_697 zw_698 zw_699 zw_5 zw_700) rfl rfl rfl zd_X8_firstStep ⟨(Nat.le_of_ble_eq_true rfl), (Nat.le_of_ble_eq_true rfl)⟩) hK hP hD hS hA [29, 30, 37, 40, 41] [0, 1, 2, 3, 4, 5, 6, 7, 8, 9, 10, 11, 12, 13, 14, 15, 16, 17, 18, 19, 20, 21, 22, 23, 24, 25, 26, 27, 28, 31, 32, 33, 34, 35, 36, 38, 39, 42, 43] [0, 1, 2, 3, 4, 5, 6, 7, 8, 9, 10, 11, 12, 13, 14, 15, 16, 17, 18, 19, 20, 21, 22, 23, 24, 25, 26, 27, 28, 39, 40, 29, 30, 31, 32, 33, 34, 41, 35, 36, 42, 43, 37, 38] rfl (by decide) rfl (by decide) (by decide) (w2 := fun uq_ : (Nat → Nat) × (Nat → Nat) × (Nat → Nat) => LW ad bd cy m_ s_ pl_ pd_ c_ rn_ z_ (mU m_) pl_ pd_ f_ u_ l_ s_.2 at_ iw_ tl_ is_ uq_.1 o2_ o3_ uq_.2.1 uq_.2.2 sb_ lc_) (fun _ => rfl) (by decide) rfl rfl rfl rfl hl.1 rfl (Nat.le_of_ble_eq_true rfl) dL_law_751 hcs (fun r751 u751 H locs h751 hP hD hS => ?_)
  obtain ⟨y1_m, yc_m, yx_m⟩ := u751
  obtain ⟨hr751, h751⟩ := h751
  have hr751 : r751 = firS (mP m_) (mN m_) := hr751
  subst hr751
  have hP : va_P D vwCl (LW ad bd cy m_ s_ pl_ pd_ c_ rn_ z_ (mU m_) pl_ pd_ f_ u_ l_ s_.2 at_ iw_ tl_ is_ y1_m o2_ o3_ yc_m yx_m sb_ lc_) H := hP
  have hD : va_D zA (LW ad bd cy m_ s_ pl_ pd_ c_ rn_ z_ (mU m_) pl_ pd_ f_ u_ l_ s_.2 at_ iw_ tl_ is_ y1_m o2_ o3_ yc_m yx_m sb_ lc_) := hD
  refine lv_icmp_eq (tgt := 897) hx hb dL_law_754 (by decide) (fun _ => ?_) (fun hne_ => absurd rfl hne_)
  exact next _ _ ⟨m_, s_, pl_, pd_, c_, rn_, z_, f_, u_, l_, at_, iw_, tl_, is_, y1_m, o2_, o3_, yc_m, yx_m, sb_, lc_, ⟨hok, hM, hSl, hpdk, (rd_mono hrdk (by omega))⟩, hP, hD, hS⟩ ls hl
set_option maxHeartbeats 4000000 in
set_option maxRecDepth 100000 in
theorem law_put {p : Program} {l : Launch} {e : Env} {s : State} {m : MethodId} {below : List Frame} {meth : Method} {c : Code} {b L : Nat} {xs : Nat → Int32} {D : va_G} {cy : Nat → ClassId} {ad bd : Nat → Nat} {zA : Nat → Prop} {cells slots : Nat} {Q : State → Prop} (hx : p.tables.exec = Jvm.exec) (hb : c.code = cL_law) (hml : c.maxLocals = 4) (hts : ∀ w ∈ w_law, w.before #[Value.ref b] s = true) (hown : s.vm.findClass RL = some m.cls) (hX : va_X b L xs s s.heap) (hbl : b < s.heap.size) (hbA : ¬ zA b) (hK : zK D cy s) (hA : ∀ q : Nat, s.heap.size ≤ q → zA q) (hcs : cells ≤ room_1.cells ∧ slots ≤ room_1.slots) (hL : L ≤ 2048) {i_ : Nat} (hi : i_ + 4 ≤ L) {H : Heap} {locs : List Loc} (inv : LInv D cy zA s.heap ad bd i_ H locs) (next : ∀ (H : Heap) (locs : List Loc), LInv D cy zA s.heap ad bd (i_ + 4) H locs → ∀ ls : Array Slot, lv_has ls 4 [(0, .ref b), (1, .ref (ad 0)), (2, .ref (bd 0)), (3, .int (nI i_))] → W p l e room_1 s m #[Value.ref b] below meth c H locs cells slots Q (F0 m 897 ls [])) : ∀ ls : Array Slot, lv_has ls 4 [(0, .ref b), (1, .ref (ad 0)), (2, .ref (bd 0)), (3, .int (nI i_))] → W p l e room_1 s m #[Value.ref b] below meth c H locs cells slots Q (F0 m 759 ls []) := by
  intro ls hl
  obtain ⟨m_, s_, pl_, pd_, c_, rn_, z_, f_, u_, l_, at_, iw_, tl_, is_, o1_, o2_, o3_, cc_, nx_, sb_, lc_, ⟨hok, hM, hSl, hpdk, hrdk⟩, hP, hD, hS⟩ := inv
  have hw := hok.1
  have hX6 := hok.2.1
  have hU6 := hok.2.2
  have hp := hpdk.1
  have hpd := hpdk.2
  have hrd := hrdk.1
  have hric2 := hrdk.2
  refine lv_aload_n hx hb dL_law_759 rfl (lv_at hl 1 rfl) ?_
  refine lv_aload_n hx hb dL_law_760 rfl (lv_at hl 0 rfl) ?_
  refine lv_iload_n hx hb dL_law_761 rfl (lv_at hl 3 rfl) ?_
  refine lv_iconst (v := nI 1) hx hb dL_law_762 (by decide) ?_
  refine zi_add (v := nI (i_ + 1)) hx hb dL_law_763 (nI_add _ _) ?_
  refine zi_sld hx hb hX hbl hbA hS (show i_ + 1 < L by omega) (by omega) dL_law_764 ?_
  refine lv_i2l (v := (xs (i_ + 1)).toInt64) hx hb dL_law_765 rfl ?_
  refine lv_bipush (v := nI 32) hx hb dL_law_766 (by decide) ?_
  refine lv_lshl (v := ((xs (i_ + 1)).toInt64) <<< ((nI 32).toInt64 &&& 63)) hx hb dL_law_768 rfl ?_
  refine lv_aload_n hx hb dL_law_769 rfl (lv_at hl 0 rfl) ?_
  refine lv_iload_n hx hb dL_law_770 rfl (lv_at hl 3 rfl) ?_
  refine lv_iconst (v := nI 2) hx hb dL_law_771 (by decide) ?_
  refine zi_add (v := nI (i_ + 2)) hx hb dL_law_772 (nI_add _ _) ?_
  refine zi_sld hx hb hX hbl hbA hS (show i_ + 2 < L by omega) (by omega) dL_law_773 ?_
  refine lv_i2l (v := (xs (i_ + 2)).toInt64) hx hb dL_law_774 rfl ?_
  refine lv_ldc2 hx hb hown (hts _ (List.mem_cons_of_mem _ zw_6)) dL_law_775 ?_
  refine zl_and (v := ((xs (i_ + 2)).toInt64) &&& (4294967295 : Int64)) hx hb dL_law_778 rfl ?_
  refine zl_or (v := (((xs (i_ + 1)).toInt64) <<< ((nI 32).toInt64 &&& 63)) ||| (((xs (i_ + 2)).toInt64) &&& (4294967295 : Int64))) hx hb dL_law_779 rfl ?_
  obtain ⟨x_, hx_⟩ : ∃ z_2, z_2 = (((xs (i_ + 1)).toInt64) <<< ((nI 32).toInt64 &&& 63)) ||| (((xs (i_ + 2)).toInt64) &&& (4294967295 : Int64)) := ⟨_, rfl⟩
  refine zl_top (v := x_) hx_.symm ?_
  refine zcWi (As := [.long x_]) (rest := []) (wr := [1, 2, 3, 4, 5, 6, 7, 8, 9, 10, 11, 12, 13, 14, 15, 16, 17, 18, 19, 20, 21, 22, 23, 24, 25, 26, 27, 29, 30, 31, 32, 33, 34, 35, 36, 37, 38, 39, 40, 41, 42, 43].filterMap (fun i => (LW ad bd cy m_ s_ pl_ pd_ c_ rn_ z_ (mU m_) pl_ pd_ f_ u_ l_ s_.2 at_ iw_ tl_ is_ o1_ o2_ o3_ cc_ nx_ sb_ lc_)[i]?)) ⟨hx, hb, hml, hown, hts⟩ (c_X7_put l D cy H.size ad m_ pl_ pd_ x_ hp) (cwV 1 hts (zG_V zw_701 zw_702 zw_703 zw_2 zw_704) rfl rfl rfl zd_X7_put ⟨(Nat.le_of_ble_eq_true rfl), (Nat.le_of_ble_eq_true rfl)⟩) hK hP hD hS hA [0, 28] [1, 2, 3, 4, 5, 6, 7, 8, 9, 10, 11, 12, 13, 14, 15, 16, 17, 18, 19, 20, 21, 22, 23, 24, 25, 26, 27, 29, 30, 31, 32, 33, 34, 35, 36, 37, 38, 39, 40, 41, 42, 43] [42, 0, 1, 2, 3, 4, 5, 6, 7, 8, 9, 10, 11, 12, 13, 14, 15, 16, 17, 18, 19, 20, 21, 22, 23, 24, 25, 26, 43, 27, 28, 29, 30, 31, 32, 33, 34, 35, 36, 37, 38, 39, 40, 41] rfl (by decide) rfl (by decide) (by decide) (w2 := fun uq_ : Unit => LW ad bd cy m_ s_ ((opPut (pd_, pl_) x_).2.2) ((opPut (pd_, pl_) x_).2.1) c_ rn_ z_ (mU m_) pl_ pd_ f_ u_ l_ s_.2 at_ iw_ tl_ is_ o1_ o2_ o3_ cc_ nx_ sb_ lc_) (fun _ => rfl) (by decide) rfl rfl rfl rfl hl.1 rfl (Nat.le_of_ble_eq_true rfl) dL_law_780 hcs (fun r780 u780 H locs h780 hP hD hS => ?_)
  obtain ⟨hr780, h780⟩ := h780
  have hr780 : r780 = (opPut (pd_, pl_) x_).1 := hr780
  subst hr780
  have hP : va_P D vwCl (LW ad bd cy m_ s_ ((opPut (pd_, pl_) x_).2.2) ((opPut (pd_, pl_) x_).2.1) c_ rn_ z_ (mU m_) pl_ pd_ f_ u_ l_ s_.2 at_ iw_ tl_ is_ o1_ o2_ o3_ cc_ nx_ sb_ lc_) H := hP
  have hD : va_D zA (LW ad bd cy m_ s_ ((opPut (pd_, pl_) x_).2.2) ((opPut (pd_, pl_) x_).2.1) c_ rn_ z_ (mU m_) pl_ pd_ f_ u_ l_ s_.2 at_ iw_ tl_ is_ o1_ o2_ o3_ cc_ nx_ sb_ lc_) := hD
  refine lv_aload_n hx hb dL_law_783 rfl (lv_at hl 2 rfl) ?_
  refine lv_aload_n hx hb dL_law_784 rfl (lv_at hl 0 rfl) ?_
  refine lv_iload_n hx hb dL_law_785 rfl (lv_at hl 3 rfl) ?_
  refine lv_iconst (v := nI 1) hx hb dL_law_786 (by decide) ?_
  refine zi_add (v := nI (i_ + 1)) hx hb dL_law_787 (nI_add _ _) ?_
  refine zi_sld hx hb hX hbl hbA hS (show i_ + 1 < L by omega) (by omega) dL_law_788 ?_
  refine lv_i2l (v := (xs (i_ + 1)).toInt64) hx hb dL_law_789 rfl ?_
  refine lv_bipush (v := nI 32) hx hb dL_law_790 (by decide) ?_
  refine lv_lshl (v := ((xs (i_ + 1)).toInt64) <<< ((nI 32).toInt64 &&& 63)) hx hb dL_law_792 rfl ?_
  refine lv_aload_n hx hb dL_law_793 rfl (lv_at hl 0 rfl) ?_
  refine lv_iload_n hx hb dL_law_794 rfl (lv_at hl 3 rfl) ?_
  refine lv_iconst (v := nI 2) hx hb dL_law_795 (by decide) ?_
  refine zi_add (v := nI (i_ + 2)) hx hb dL_law_796 (nI_add _ _) ?_
  refine zi_sld hx hb hX hbl hbA hS (show i_ + 2 < L by omega) (by omega) dL_law_797 ?_
  refine lv_i2l (v := (xs (i_ + 2)).toInt64) hx hb dL_law_798 rfl ?_
  refine lv_ldc2 hx hb hown (hts _ (List.mem_cons_of_mem _ zw_6)) dL_law_799 ?_
  refine zl_and (v := ((xs (i_ + 2)).toInt64) &&& (4294967295 : Int64)) hx hb dL_law_802 rfl ?_
  refine zl_or (v := x_) hx hb dL_law_803 hx_.symm ?_
  refine zcWi (As := [.long x_]) (rest := [.int ((opPut (pd_, pl_) x_).1)]) (wr := [0, 1, 2, 3, 4, 5, 6, 7, 8, 9, 10, 11, 12, 13, 14, 15, 16, 17, 18, 19, 20, 21, 22, 23, 24, 25, 26, 27, 28, 30, 31, 32, 33, 35, 36, 37, 38, 39, 40, 41, 42, 43].filterMap (fun i => (LW ad bd cy m_ s_ ((opPut (pd_, pl_) x_).2.2) ((opPut (pd_, pl_) x_).2.1) c_ rn_ z_ (mU m_) pl_ pd_ f_ u_ l_ s_.2 at_ iw_ tl_ is_ o1_ o2_ o3_ cc_ nx_ sb_ lc_)[i]?)) ⟨hx, hb, hml, hown, hts⟩ (c_X8_put l D cy H.size bd (mU m_) pl_ at_ iw_ pd_ x_ hp) (cwV 1 hts (zG_V zw_715 zw_716 zw_717 zw_5 zw_718) rfl rfl rfl zd_X8_put ⟨(Nat.le_of_ble_eq_true rfl), (Nat.le_of_ble_eq_true rfl)⟩) hK hP hD hS hA [29, 34] [0, 1, 2, 3, 4, 5, 6, 7, 8, 9, 10, 11, 12, 13, 14, 15, 16, 17, 18, 19, 20, 21, 22, 23, 24, 25, 26, 27, 28, 30, 31, 32, 33, 35, 36, 37, 38, 39, 40, 41, 42, 43] [0, 1, 2, 3, 4, 5, 6, 7, 8, 9, 10, 11, 12, 13, 14, 15, 16, 17, 18, 19, 20, 21, 22, 23, 24, 25, 26, 27, 28, 42, 29, 30, 31, 32, 43, 33, 34, 35, 36, 37, 38, 39, 40, 41] rfl (by decide) rfl (by decide) (by decide) (w2 := fun uq_ : Unit => LW ad bd cy m_ s_ ((opPut (pd_, pl_) x_).2.2) ((opPut (pd_, pl_) x_).2.1) c_ rn_ z_ (mU m_) ((opPut (pd_, pl_) x_).2.2) ((opPut (pd_, pl_) x_).2.1) f_ u_ l_ s_.2 at_ iw_ tl_ is_ o1_ o2_ o3_ cc_ nx_ sb_ lc_) (fun _ => rfl) (by decide) rfl rfl rfl rfl hl.1 rfl (Nat.le_of_ble_eq_true rfl) dL_law_804 hcs (fun r804 u804 H locs h804 hP hD hS => ?_)
  obtain ⟨hr804, h804⟩ := h804
  have hr804 : r804 = (opPut (pd_, pl_) x_).1 := hr804
  subst hr804
  have hP : va_P D vwCl (LW ad bd cy m_ s_ ((opPut (pd_, pl_) x_).2.2) ((opPut (pd_, pl_) x_).2.1) c_ rn_ z_ (mU m_) ((opPut (pd_, pl_) x_).2.2) ((opPut (pd_, pl_) x_).2.1) f_ u_ l_ s_.2 at_ iw_ tl_ is_ o1_ o2_ o3_ cc_ nx_ sb_ lc_) H := hP
  have hD : va_D zA (LW ad bd cy m_ s_ ((opPut (pd_, pl_) x_).2.2) ((opPut (pd_, pl_) x_).2.1) c_ rn_ z_ (mU m_) ((opPut (pd_, pl_) x_).2.2) ((opPut (pd_, pl_) x_).2.1) f_ u_ l_ s_.2 at_ iw_ tl_ is_ o1_ o2_ o3_ cc_ nx_ sb_ lc_) := hD
  refine lv_icmp_eq (tgt := 897) hx hb dL_law_807 (by decide) (fun _ => ?_) (fun hne_ => absurd rfl hne_)
  exact next _ _ ⟨m_, s_, ((opPut (pd_, pl_) x_).2.2), ((opPut (pd_, pl_) x_).2.1), c_, rn_, z_, f_, u_, l_, at_, iw_, tl_, is_, o1_, o2_, o3_, cc_, nx_, sb_, lc_, ⟨hok, hM, hSl, (pd_put hpdk x_), (rd_mono hrdk (by omega))⟩, hP, hD, hS⟩ ls hl
set_option maxHeartbeats 4000000 in
set_option maxRecDepth 100000 in
theorem law_wipe {p : Program} {l : Launch} {e : Env} {s : State} {m : MethodId} {below : List Frame} {meth : Method} {c : Code} {b L : Nat} {xs : Nat → Int32} {D : va_G} {cy : Nat → ClassId} {ad bd : Nat → Nat} {zA : Nat → Prop} {cells slots : Nat} {Q : State → Prop} (hx : p.tables.exec = Jvm.exec) (hb : c.code = cL_law) (hml : c.maxLocals = 4) (hts : ∀ w ∈ w_law, w.before #[Value.ref b] s = true) (hown : s.vm.findClass RL = some m.cls) (hX : va_X b L xs s s.heap) (hbl : b < s.heap.size) (hbA : ¬ zA b) (hK : zK D cy s) (hA : ∀ q : Nat, s.heap.size ≤ q → zA q) (hcs : cells ≤ room_1.cells ∧ slots ≤ room_1.slots) (hL : L ≤ 2048) {i_ : Nat} (hi : i_ + 4 ≤ L) {H : Heap} {locs : List Loc} (inv : LInv D cy zA s.heap ad bd i_ H locs) (next : ∀ (H : Heap) (locs : List Loc), LInv D cy zA s.heap ad bd (i_ + 4) H locs → ∀ ls : Array Slot, lv_has ls 4 [(0, .ref b), (1, .ref (ad 0)), (2, .ref (bd 0)), (3, .int (nI i_))] → W p l e room_1 s m #[Value.ref b] below meth c H locs cells slots Q (F0 m 897 ls [])) : ∀ ls : Array Slot, lv_has ls 4 [(0, .ref b), (1, .ref (ad 0)), (2, .ref (bd 0)), (3, .int (nI i_))] → W p l e room_1 s m #[Value.ref b] below meth c H locs cells slots Q (F0 m 812 ls []) := by
  intro ls hl
  obtain ⟨m_, s_, pl_, pd_, c_, rn_, z_, f_, u_, l_, at_, iw_, tl_, is_, o1_, o2_, o3_, cc_, nx_, sb_, lc_, ⟨hok, hM, hSl, hpdk, hrdk⟩, hP, hD, hS⟩ := inv
  have hw := hok.1
  have hX6 := hok.2.1
  have hU6 := hok.2.2
  have hp := hpdk.1
  have hpd := hpdk.2
  have hrd := hrdk.1
  have hric2 := hrdk.2
  refine lv_aload_n hx hb dL_law_812 rfl (lv_at hl 1 rfl) ?_
  refine zcWi (As := []) (rest := []) (wr := [1, 2, 3, 4, 5, 6, 7, 8, 9, 10, 11, 12, 13, 14, 15, 16, 17, 18, 19, 20, 21, 22, 23, 24, 25, 26, 27, 28, 29, 30, 31, 32, 33, 34, 35, 36, 37, 38, 39, 40, 41, 42, 43].filterMap (fun i => (LW ad bd cy m_ s_ pl_ pd_ c_ rn_ z_ (mU m_) pl_ pd_ f_ u_ l_ s_.2 at_ iw_ tl_ is_ o1_ o2_ o3_ cc_ nx_ sb_ lc_)[i]?)) ⟨hx, hb, hml, hown, hts⟩ (c_X7_wipe l D cy H.size ad m_ pl_) (cwV 0 hts (zG_V zw_720 zw_721 zw_722 zw_2 zw_723) rfl rfl rfl zd_X7_wipe ⟨(Nat.le_of_ble_eq_true rfl), (Nat.le_of_ble_eq_true rfl)⟩) hK hP hD hS hA [0] [1, 2, 3, 4, 5, 6, 7, 8, 9, 10, 11, 12, 13, 14, 15, 16, 17, 18, 19, 20, 21, 22, 23, 24, 25, 26, 27, 28, 29, 30, 31, 32, 33, 34, 35, 36, 37, 38, 39, 40, 41, 42, 43] [43, 0, 1, 2, 3, 4, 5, 6, 7, 8, 9, 10, 11, 12, 13, 14, 15, 16, 17, 18, 19, 20, 21, 22, 23, 24, 25, 26, 27, 28, 29, 30, 31, 32, 33, 34, 35, 36, 37, 38, 39, 40, 41, 42] rfl (by decide) rfl (by decide) (by decide) (w2 := fun uq_ : Unit => LW ad bd cy m_ s_ 0 pd_ c_ rn_ z_ (mU m_) pl_ pd_ f_ u_ l_ s_.2 at_ iw_ tl_ is_ o1_ o2_ o3_ cc_ nx_ sb_ lc_) (fun _ => rfl) (by decide) rfl rfl rfl rfl hl.1 rfl (Nat.le_of_ble_eq_true rfl) dL_law_813 hcs (fun r813 u813 H locs h813 hP hD hS => ?_)
  obtain ⟨hr813, h813⟩ := h813
  have hr813 : r813 = nI pl_ := hr813
  subst hr813
  have hP : va_P D vwCl (LW ad bd cy m_ s_ 0 pd_ c_ rn_ z_ (mU m_) pl_ pd_ f_ u_ l_ s_.2 at_ iw_ tl_ is_ o1_ o2_ o3_ cc_ nx_ sb_ lc_) H := hP
  have hD : va_D zA (LW ad bd cy m_ s_ 0 pd_ c_ rn_ z_ (mU m_) pl_ pd_ f_ u_ l_ s_.2 at_ iw_ tl_ is_ o1_ o2_ o3_ cc_ nx_ sb_ lc_) := hD
  refine lv_aload_n hx hb dL_law_816 rfl (lv_at hl 2 rfl) ?_
  refine zcWi (As := []) (rest := [.int (nI pl_)]) (wr := [0, 1, 2, 3, 4, 5, 6, 7, 8, 9, 10, 11, 12, 13, 14, 15, 16, 17, 18, 19, 20, 21, 22, 23, 24, 25, 26, 27, 28, 30, 31, 32, 33, 34, 35, 36, 37, 38, 39, 40, 41, 42, 43].filterMap (fun i => (LW ad bd cy m_ s_ 0 pd_ c_ rn_ z_ (mU m_) pl_ pd_ f_ u_ l_ s_.2 at_ iw_ tl_ is_ o1_ o2_ o3_ cc_ nx_ sb_ lc_)[i]?)) ⟨hx, hb, hml, hown, hts⟩ (c_X8_wipe l D cy H.size bd (mU m_) pl_ at_ iw_) (cwV 0 hts (zG_V zw_724 zw_725 zw_726 zw_5 zw_727) rfl rfl rfl zd_X8_wipe ⟨(Nat.le_of_ble_eq_true rfl), (Nat.le_of_ble_eq_true rfl)⟩) hK hP hD hS hA [29] [0, 1, 2, 3, 4, 5, 6, 7, 8, 9, 10, 11, 12, 13, 14, 15, 16, 17, 18, 19, 20, 21, 22, 23, 24, 25, 26, 27, 28, 30, 31, 32, 33, 34, 35, 36, 37, 38, 39, 40, 41, 42, 43] [0, 1, 2, 3, 4, 5, 6, 7, 8, 9, 10, 11, 12, 13, 14, 15, 16, 17, 18, 19, 20, 21, 22, 23, 24, 25, 26, 27, 28, 43, 29, 30, 31, 32, 33, 34, 35, 36, 37, 38, 39, 40, 41, 42] rfl (by decide) rfl (by decide) (by decide) (w2 := fun uq_ : Unit => LW ad bd cy m_ s_ 0 pd_ c_ rn_ z_ (mU m_) 0 pd_ f_ u_ l_ s_.2 at_ iw_ tl_ is_ o1_ o2_ o3_ cc_ nx_ sb_ lc_) (fun _ => rfl) (by decide) rfl rfl rfl rfl hl.1 rfl (Nat.le_of_ble_eq_true rfl) dL_law_817 hcs (fun r817 u817 H locs h817 hP hD hS => ?_)
  obtain ⟨hr817, h817⟩ := h817
  have hr817 : r817 = nI pl_ := hr817
  subst hr817
  have hP : va_P D vwCl (LW ad bd cy m_ s_ 0 pd_ c_ rn_ z_ (mU m_) 0 pd_ f_ u_ l_ s_.2 at_ iw_ tl_ is_ o1_ o2_ o3_ cc_ nx_ sb_ lc_) H := hP
  have hD : va_D zA (LW ad bd cy m_ s_ 0 pd_ c_ rn_ z_ (mU m_) 0 pd_ f_ u_ l_ s_.2 at_ iw_ tl_ is_ o1_ o2_ o3_ cc_ nx_ sb_ lc_) := hD
  refine lv_icmp_eq (tgt := 897) hx hb dL_law_820 (by decide) (fun _ => ?_) (fun hne_ => absurd rfl hne_)
  exact next _ _ ⟨m_, s_, 0, pd_, c_, rn_, z_, f_, u_, l_, at_, iw_, tl_, is_, o1_, o2_, o3_, cc_, nx_, sb_, lc_, ⟨hok, hM, hSl, (pd_wipe pd_), (rd_mono hrdk (by omega))⟩, hP, hD, hS⟩ ls hl
set_option maxHeartbeats 4000000 in
set_option maxRecDepth 100000 in
theorem law_fault {p : Program} {l : Launch} {e : Env} {s : State} {m : MethodId} {below : List Frame} {meth : Method} {c : Code} {b L : Nat} {xs : Nat → Int32} {D : va_G} {cy : Nat → ClassId} {ad bd : Nat → Nat} {zA : Nat → Prop} {cells slots : Nat} {Q : State → Prop} (hx : p.tables.exec = Jvm.exec) (hb : c.code = cL_law) (hml : c.maxLocals = 4) (hts : ∀ w ∈ w_law, w.before #[Value.ref b] s = true) (hown : s.vm.findClass RL = some m.cls) (hX : va_X b L xs s s.heap) (hbl : b < s.heap.size) (hbA : ¬ zA b) (hK : zK D cy s) (hA : ∀ q : Nat, s.heap.size ≤ q → zA q) (hcs : cells ≤ room_1.cells ∧ slots ≤ room_1.slots) (hL : L ≤ 2048) {i_ : Nat} (hi : i_ + 4 ≤ L) {H : Heap} {locs : List Loc} (inv : LInv D cy zA s.heap ad bd i_ H locs) (next : ∀ (H : Heap) (locs : List Loc), LInv D cy zA s.heap ad bd (i_ + 4) H locs → ∀ ls : Array Slot, lv_has ls 4 [(0, .ref b), (1, .ref (ad 0)), (2, .ref (bd 0)), (3, .int (nI i_))] → W p l e room_1 s m #[Value.ref b] below meth c H locs cells slots Q (F0 m 897 ls [])) : ∀ ls : Array Slot, lv_has ls 4 [(0, .ref b), (1, .ref (ad 0)), (2, .ref (bd 0)), (3, .int (nI i_))] → W p l e room_1 s m #[Value.ref b] below meth c H locs cells slots Q (F0 m 825 ls []) := by
  intro ls hl
  obtain ⟨m_, s_, pl_, pd_, c_, rn_, z_, f_, u_, l_, at_, iw_, tl_, is_, o1_, o2_, o3_, cc_, nx_, sb_, lc_, ⟨hok, hM, hSl, hpdk, hrdk⟩, hP, hD, hS⟩ := inv
  have hw := hok.1
  have hX6 := hok.2.1
  have hU6 := hok.2.2
  have hp := hpdk.1
  have hpd := hpdk.2
  have hrd := hrdk.1
  have hric2 := hrdk.2
  refine lv_aload_n hx hb dL_law_825 rfl (lv_at hl 1 rfl) ?_
  refine zcWi (As := []) (rest := []) (wr := [2, 3, 4, 5, 6, 7, 8, 9, 10, 11, 12, 13, 14, 15, 16, 17, 18, 19, 20, 21, 22, 23, 24, 25, 26, 29, 30, 31, 32, 33, 34, 35, 36, 37, 38, 39, 40, 41, 42, 43].filterMap (fun i => (LW ad bd cy m_ s_ pl_ pd_ c_ rn_ z_ (mU m_) pl_ pd_ f_ u_ l_ s_.2 at_ iw_ tl_ is_ o1_ o2_ o3_ cc_ nx_ sb_ lc_)[i]?)) ⟨hx, hb, hml, hown, hts⟩ (c_X7_fault l D cy H.size ad m_ pl_ pd_ rn_ z_ hw hp hpd hrd (by omega)) (cwV 0 hts (zG_V zw_728 zw_729 zw_730 zw_2 zw_731) rfl rfl rfl zd_X7_fault ⟨(Nat.le_of_ble_eq_true rfl), (Nat.le_of_ble_eq_true rfl)⟩) hK hP hD hS hA [0, 1, 28, 27] [2, 3, 4, 5, 6, 7, 8, 9, 10, 11, 12, 13, 14, 15, 16, 17, 18, 19, 20, 21, 22, 23, 24, 25, 26, 29, 30, 31, 32, 33, 34, 35, 36, 37, 38, 39, 40, 41, 42, 43] [40, 41, 0, 1, 2, 3, 4, 5, 6, 7, 8, 9, 10, 11, 12, 13, 14, 15, 16, 17, 18, 19, 20, 21, 22, 23, 24, 43, 42, 25, 26, 27, 28, 29, 30, 31, 32, 33, 34, 35, 36, 37, 38, 39] rfl (by decide) rfl (by decide) (by decide) (w2 := fun uq_ : RS => LW ad bd cy m_ s_ pl_ pd_ c_ (mN m_) uq_ (mU m_) pl_ pd_ f_ u_ l_ s_.2 at_ iw_ tl_ is_ o1_ o2_ o3_ cc_ nx_ sb_ lc_) (fun _ => rfl) (by decide) rfl rfl rfl rfl hl.1 rfl (Nat.le_of_ble_eq_true rfl) dL_law_826 hcs (fun r826 u826 H locs h826 hP hD hS => ?_)
  obtain ⟨w_x, rfl⟩ : ∃ z_, z_ = u826 := ⟨_, rfl⟩
  obtain ⟨hr826, h826⟩ := h826
  have hr826 : r826 = fltI (mN m_) pd_ (0, stayL, 0, z_.2.2.2.1, z_.2.2.2.2.1, z_.2.2.2.2.2.1, z_.2.2.2.2.2.2) pl_ := hr826
  have hcx_ : (w_x.2.2.2.1 < 16 ∧ w_x.2.2.2.2.2.1 < 16 ∧ w_x.2.2.2.2.2.2 < 16 ∧ w_x.2.2.2.2.1 ≤ z_.2.2.2.2.1 + 80) ∧ (fltI (mN m_) pd_ (0, stayL, 0, z_.2.2.2.1, z_.2.2.2.2.1, z_.2.2.2.2.2.1, z_.2.2.2.2.2.2) pl_ = -6 → w_x.2.1 = (rsAt (mN m_) pd_ (0, stayL, 0, z_.2.2.2.1, z_.2.2.2.2.1, z_.2.2.2.2.2.1, z_.2.2.2.2.2.2) pl_).2.1) := h826
  subst hr826
  have hP : va_P D vwCl (LW ad bd cy m_ s_ pl_ pd_ c_ (mN m_) w_x (mU m_) pl_ pd_ f_ u_ l_ s_.2 at_ iw_ tl_ is_ o1_ o2_ o3_ cc_ nx_ sb_ lc_) H := hP
  have hD : va_D zA (LW ad bd cy m_ s_ pl_ pd_ c_ (mN m_) w_x (mU m_) pl_ pd_ f_ u_ l_ s_.2 at_ iw_ tl_ is_ o1_ o2_ o3_ cc_ nx_ sb_ lc_) := hD
  refine lv_aload_n hx hb dL_law_829 rfl (lv_at hl 2 rfl) ?_
  refine zcWi (As := []) (rest := [.int (fltI (mN m_) pd_ (0, stayL, 0, z_.2.2.2.1, z_.2.2.2.2.1, z_.2.2.2.2.2.1, z_.2.2.2.2.2.2) pl_)]) (wr := [0, 1, 2, 3, 4, 5, 6, 7, 8, 9, 10, 11, 12, 13, 14, 15, 16, 17, 18, 19, 20, 21, 22, 23, 24, 25, 26, 27, 28, 31, 32, 33, 37, 38, 39, 40, 41, 42, 43].filterMap (fun i => (LW ad bd cy m_ s_ pl_ pd_ c_ (mN m_) w_x (mU m_) pl_ pd_ f_ u_ l_ s_.2 at_ iw_ tl_ is_ o1_ o2_ o3_ cc_ nx_ sb_ lc_)[i]?)) ⟨hx, hb, hml, hown, hts⟩ (c_X8_fault l D cy H.size bd (mU m_) pl_ at_ iw_ f_ m_ pd_ is_ tl_ (0, stayL, 0, z_.2.2.2.1, z_.2.2.2.2.1, z_.2.2.2.2.2.1, z_.2.2.2.2.2.2) hw hM.1 hp hpd ⟨rfl, rfl, rfl⟩) (cwV 0 hts (zG_V zw_732 zw_733 zw_734 zw_5 zw_735) rfl rfl rfl zd_X8_fault ⟨(Nat.le_of_ble_eq_true rfl), (Nat.le_of_ble_eq_true rfl)⟩) hK hP hD hS hA [29, 30, 34, 35, 36] [0, 1, 2, 3, 4, 5, 6, 7, 8, 9, 10, 11, 12, 13, 14, 15, 16, 17, 18, 19, 20, 21, 22, 23, 24, 25, 26, 27, 28, 31, 32, 33, 37, 38, 39, 40, 41, 42, 43] [0, 1, 2, 3, 4, 5, 6, 7, 8, 9, 10, 11, 12, 13, 14, 15, 16, 17, 18, 19, 20, 21, 22, 23, 24, 25, 26, 27, 28, 39, 40, 29, 30, 31, 41, 42, 43, 32, 33, 34, 35, 36, 37, 38] rfl (by decide) rfl (by decide) (by decide) (w2 := fun uq_ : Nat × Bool × (Nat → Bool) × (Nat → Nat) => LW ad bd cy m_ s_ pl_ pd_ c_ (mN m_) w_x (mU m_) pl_ pd_ f_ u_ l_ s_.2 uq_.1 uq_.2.1 uq_.2.2.2 uq_.2.2.1 o1_ o2_ o3_ cc_ nx_ sb_ lc_) (fun _ => rfl) (by decide) rfl rfl rfl rfl hl.1 rfl (Nat.le_of_ble_eq_true rfl) dL_law_830 hcs (fun r830 u830 H locs h830 hP hD hS => ?_)
  obtain ⟨j8_m, w8_m, i2_m, t2_m⟩ := u830
  obtain ⟨hr830, h830⟩ := h830
  have hr830 : r830 = fltI (mN m_) pd_ (0, stayL, 0, z_.2.2.2.1, z_.2.2.2.2.1, z_.2.2.2.2.2.1, z_.2.2.2.2.2.2) pl_ := hr830
  subst hr830
  have hP : va_P D vwCl (LW ad bd cy m_ s_ pl_ pd_ c_ (mN m_) w_x (mU m_) pl_ pd_ f_ u_ l_ s_.2 j8_m w8_m t2_m i2_m o1_ o2_ o3_ cc_ nx_ sb_ lc_) H := hP
  have hD : va_D zA (LW ad bd cy m_ s_ pl_ pd_ c_ (mN m_) w_x (mU m_) pl_ pd_ f_ u_ l_ s_.2 j8_m w8_m t2_m i2_m o1_ o2_ o3_ cc_ nx_ sb_ lc_) := hD
  refine lv_icmp_eq (tgt := 897) hx hb dL_law_833 (by decide) (fun _ => ?_) (fun hne_ => absurd rfl hne_)
  exact next _ _ ⟨m_, s_, pl_, pd_, c_, (mN m_), w_x, f_, u_, l_, j8_m, w8_m, t2_m, i2_m, o1_, o2_, o3_, cc_, nx_, sb_, lc_, ⟨hok, hM, hSl, hpdk, (rd_read hrdk hcx_.1)⟩, hP, hD, hS⟩ ls hl
set_option maxHeartbeats 4000000 in
set_option maxRecDepth 100000 in
theorem law_undo {p : Program} {l : Launch} {e : Env} {s : State} {m : MethodId} {below : List Frame} {meth : Method} {c : Code} {b L : Nat} {xs : Nat → Int32} {D : va_G} {cy : Nat → ClassId} {ad bd : Nat → Nat} {zA : Nat → Prop} {cells slots : Nat} {Q : State → Prop} (hx : p.tables.exec = Jvm.exec) (hb : c.code = cL_law) (hml : c.maxLocals = 4) (hts : ∀ w ∈ w_law, w.before #[Value.ref b] s = true) (hown : s.vm.findClass RL = some m.cls) (hX : va_X b L xs s s.heap) (hbl : b < s.heap.size) (hbA : ¬ zA b) (hK : zK D cy s) (hA : ∀ q : Nat, s.heap.size ≤ q → zA q) (hcs : cells ≤ room_1.cells ∧ slots ≤ room_1.slots) (hL : L ≤ 2048) {i_ : Nat} (hi : i_ + 4 ≤ L) {H : Heap} {locs : List Loc} (inv : LInv D cy zA s.heap ad bd i_ H locs) (next : ∀ (H : Heap) (locs : List Loc), LInv D cy zA s.heap ad bd (i_ + 4) H locs → ∀ ls : Array Slot, lv_has ls 4 [(0, .ref b), (1, .ref (ad 0)), (2, .ref (bd 0)), (3, .int (nI i_))] → W p l e room_1 s m #[Value.ref b] below meth c H locs cells slots Q (F0 m 897 ls [])) : ∀ ls : Array Slot, lv_has ls 4 [(0, .ref b), (1, .ref (ad 0)), (2, .ref (bd 0)), (3, .int (nI i_))] → W p l e room_1 s m #[Value.ref b] below meth c H locs cells slots Q (F0 m 838 ls []) := by
  intro ls hl
  obtain ⟨m_, s_, pl_, pd_, c_, rn_, z_, f_, u_, l_, at_, iw_, tl_, is_, o1_, o2_, o3_, cc_, nx_, sb_, lc_, ⟨hok, hM, hSl, hpdk, hrdk⟩, hP, hD, hS⟩ := inv
  have hw := hok.1
  have hX6 := hok.2.1
  have hU6 := hok.2.2
  have hp := hpdk.1
  have hpd := hpdk.2
  have hrd := hrdk.1
  have hric2 := hrdk.2
  refine lv_aload_n hx hb dL_law_838 rfl (lv_at hl 1 rfl) ?_
  refine zcWi (As := []) (rest := []) (wr := [18, 19, 20, 21, 22, 23, 24, 25, 26, 27, 28, 29, 30, 31, 32, 33, 34, 35, 36, 37, 38, 39, 40, 41, 42, 43].filterMap (fun i => (LW ad bd cy m_ s_ pl_ pd_ c_ rn_ z_ (mU m_) pl_ pd_ f_ u_ l_ s_.2 at_ iw_ tl_ is_ o1_ o2_ o3_ cc_ nx_ sb_ lc_)[i]?)) ⟨hx, hb, hml, hown, hts⟩ (c_X7_undo l D cy H.size ad m_ pl_ hw hX6 hU6) (cwV 0 hts (zG_V zw_736 zw_737 zw_738 zw_2 zw_739) rfl rfl rfl zd_X7_undo ⟨(Nat.le_of_ble_eq_true rfl), (Nat.le_of_ble_eq_true rfl)⟩) hK hP hD hS hA [0, 1, 2, 3, 4, 5, 6, 7, 8, 9, 10, 11, 12, 13, 14, 15, 16, 17] [18, 19, 20, 21, 22, 23, 24, 25, 26, 27, 28, 29, 30, 31, 32, 33, 34, 35, 36, 37, 38, 39, 40, 41, 42, 43] [26, 27, 28, 29, 30, 31, 32, 33, 34, 35, 36, 37, 38, 39, 40, 41, 42, 43, 0, 1, 2, 3, 4, 5, 6, 7, 8, 9, 10, 11, 12, 13, 14, 15, 16, 17, 18, 19, 20, 21, 22, 23, 24, 25] rfl (by decide) rfl (by decide) (by decide) (w2 := fun uq_ : Unit => LW ad bd cy ((opUndo m_).2) s_ pl_ pd_ c_ rn_ z_ (mU m_) pl_ pd_ f_ u_ l_ s_.2 at_ iw_ tl_ is_ o1_ o2_ o3_ cc_ nx_ sb_ lc_) (fun _ => rfl) (by decide) rfl rfl rfl rfl hl.1 rfl (Nat.le_of_ble_eq_true rfl) dL_law_839 hcs (fun r839 u839 H locs h839 hP hD hS => ?_)
  obtain ⟨hr839, h839⟩ := h839
  have hr839 : r839 = (opUndo m_).1 := hr839
  subst hr839
  have hP : va_P D vwCl (LW ad bd cy ((opUndo m_).2) s_ pl_ pd_ c_ rn_ z_ (mU m_) pl_ pd_ f_ u_ l_ s_.2 at_ iw_ tl_ is_ o1_ o2_ o3_ cc_ nx_ sb_ lc_) H := hP
  have hD : va_D zA (LW ad bd cy ((opUndo m_).2) s_ pl_ pd_ c_ rn_ z_ (mU m_) pl_ pd_ f_ u_ l_ s_.2 at_ iw_ tl_ is_ o1_ o2_ o3_ cc_ nx_ sb_ lc_) := hD
  refine lv_aload_n hx hb dL_law_842 rfl (lv_at hl 2 rfl) ?_
  refine zcWi (As := []) (rest := [.int ((opUndo m_).1)]) (wr := [0, 1, 2, 3, 4, 5, 6, 7, 8, 9, 10, 11, 12, 13, 14, 15, 16, 17, 18, 19, 20, 21, 22, 23, 24, 25, 26, 27, 28, 32, 33, 34, 35, 36, 37, 38, 39, 40, 41, 42, 43].filterMap (fun i => (LW ad bd cy ((opUndo m_).2) s_ pl_ pd_ c_ rn_ z_ (mU m_) pl_ pd_ f_ u_ l_ s_.2 at_ iw_ tl_ is_ o1_ o2_ o3_ cc_ nx_ sb_ lc_)[i]?)) ⟨hx, hb, hml, hown, hts⟩ (c_X8_undo l D cy H.size bd m_ pl_ at_ iw_ f_ u_ hw hX6 hU6 hM) (cwV 0 hts (zG_V zw_744 zw_745 zw_746 zw_5 zw_747) rfl rfl rfl zd_X8_undo ⟨(Nat.le_of_ble_eq_true rfl), (Nat.le_of_ble_eq_true rfl)⟩) hK hP hD hS hA [29, 30, 31] [0, 1, 2, 3, 4, 5, 6, 7, 8, 9, 10, 11, 12, 13, 14, 15, 16, 17, 18, 19, 20, 21, 22, 23, 24, 25, 26, 27, 28, 32, 33, 34, 35, 36, 37, 38, 39, 40, 41, 42, 43] [0, 1, 2, 3, 4, 5, 6, 7, 8, 9, 10, 11, 12, 13, 14, 15, 16, 17, 18, 19, 20, 21, 22, 23, 24, 25, 26, 27, 28, 41, 42, 43, 29, 30, 31, 32, 33, 34, 35, 36, 37, 38, 39, 40] rfl (by decide) rfl (by decide) (by decide) (w2 := fun uq_ : (Nat → Nat) × (Nat → Nat) => LW ad bd cy ((opUndo m_).2) s_ pl_ pd_ c_ rn_ z_ (mU ((opUndo m_).2)) pl_ pd_ uq_.1 uq_.2 l_ s_.2 at_ iw_ tl_ is_ o1_ o2_ o3_ cc_ nx_ sb_ lc_) (fun _ => rfl) (by decide) rfl rfl rfl rfl hl.1 rfl (Nat.le_of_ble_eq_true rfl) dL_law_843 hcs (fun r843 u843 H locs h843 hP hD hS => ?_)
  obtain ⟨w_m, v_m⟩ := u843
  obtain ⟨hr843, h843⟩ := h843
  have hr843 : r843 = (opUndo m_).1 := hr843
  have hm : MR (opUndo m_).2 w_m v_m := h843
  subst hr843
  have hP : va_P D vwCl (LW ad bd cy ((opUndo m_).2) s_ pl_ pd_ c_ rn_ z_ (mU ((opUndo m_).2)) pl_ pd_ w_m v_m l_ s_.2 at_ iw_ tl_ is_ o1_ o2_ o3_ cc_ nx_ sb_ lc_) H := hP
  have hD : va_D zA (LW ad bd cy ((opUndo m_).2) s_ pl_ pd_ c_ rn_ z_ (mU ((opUndo m_).2)) pl_ pd_ w_m v_m l_ s_.2 at_ iw_ tl_ is_ o1_ o2_ o3_ cc_ nx_ sb_ lc_) := hD
  refine lv_icmp_eq (tgt := 897) hx hb dL_law_846 (by decide) (fun _ => ?_) (fun hne_ => absurd rfl hne_)
  exact next _ _ ⟨((opUndo m_).2), s_, pl_, pd_, c_, rn_, z_, w_m, v_m, l_, at_, iw_, tl_, is_, o1_, o2_, o3_, cc_, nx_, sb_, lc_, ⟨(ok_undo hok hM), hm, hSl, hpdk, (rd_mono hrdk (by omega))⟩, hP, hD, hS⟩ ls hl
set_option maxHeartbeats 4000000 in
set_option maxRecDepth 100000 in
theorem law_save {p : Program} {l : Launch} {e : Env} {s : State} {m : MethodId} {below : List Frame} {meth : Method} {c : Code} {b L : Nat} {xs : Nat → Int32} {D : va_G} {cy : Nat → ClassId} {ad bd : Nat → Nat} {zA : Nat → Prop} {cells slots : Nat} {Q : State → Prop} (hx : p.tables.exec = Jvm.exec) (hb : c.code = cL_law) (hml : c.maxLocals = 4) (hts : ∀ w ∈ w_law, w.before #[Value.ref b] s = true) (hown : s.vm.findClass RL = some m.cls) (hX : va_X b L xs s s.heap) (hbl : b < s.heap.size) (hbA : ¬ zA b) (hK : zK D cy s) (hA : ∀ q : Nat, s.heap.size ≤ q → zA q) (hcs : cells ≤ room_1.cells ∧ slots ≤ room_1.slots) (hL : L ≤ 2048) {i_ : Nat} (hi : i_ + 4 ≤ L) {H : Heap} {locs : List Loc} (inv : LInv D cy zA s.heap ad bd i_ H locs) (next : ∀ (H : Heap) (locs : List Loc), LInv D cy zA s.heap ad bd (i_ + 4) H locs → ∀ ls : Array Slot, lv_has ls 4 [(0, .ref b), (1, .ref (ad 0)), (2, .ref (bd 0)), (3, .int (nI i_))] → W p l e room_1 s m #[Value.ref b] below meth c H locs cells slots Q (F0 m 897 ls [])) : ∀ ls : Array Slot, lv_has ls 4 [(0, .ref b), (1, .ref (ad 0)), (2, .ref (bd 0)), (3, .int (nI i_))] → W p l e room_1 s m #[Value.ref b] below meth c H locs cells slots Q (F0 m 851 ls []) := by
  intro ls hl
  obtain ⟨m_, s_, pl_, pd_, c_, rn_, z_, f_, u_, l_, at_, iw_, tl_, is_, o1_, o2_, o3_, cc_, nx_, sb_, lc_, ⟨hok, hM, hSl, hpdk, hrdk⟩, hP, hD, hS⟩ := inv
  have hw := hok.1
  have hX6 := hok.2.1
  have hU6 := hok.2.2
  have hp := hpdk.1
  have hpd := hpdk.2
  have hrd := hrdk.1
  have hric2 := hrdk.2
  refine lv_aload_n hx hb dL_law_851 rfl (lv_at hl 1 rfl) ?_
  refine lv_aload_n hx hb dL_law_852 rfl (lv_at hl 0 rfl) ?_
  refine lv_iload_n hx hb dL_law_853 rfl (lv_at hl 3 rfl) ?_
  refine lv_iconst (v := nI 1) hx hb dL_law_854 (by decide) ?_
  refine zi_add (v := nI (i_ + 1)) hx hb dL_law_855 (nI_add _ _) ?_
  refine zi_sld hx hb hX hbl hbA hS (show i_ + 1 < L by omega) (by omega) dL_law_856 ?_
  refine zcWi (As := [.int (xs (i_ + 1))]) (rest := []) (wr := [3, 4, 5, 6, 7, 8, 9, 10, 11, 12, 13, 14, 15, 16, 17, 25, 26, 27, 28, 29, 30, 31, 32, 33, 34, 35, 36, 37, 38, 39, 40, 41, 42, 43].filterMap (fun i => (LW ad bd cy m_ s_ pl_ pd_ c_ rn_ z_ (mU m_) pl_ pd_ f_ u_ l_ s_.2 at_ iw_ tl_ is_ o1_ o2_ o3_ cc_ nx_ sb_ lc_)[i]?)) ⟨hx, hb, hml, hown, hts⟩ (c_X7_save l D cy H.size ad m_ pl_ s_ (xs (i_ + 1)) hw hX6 hU6) (cwV 1 hts (zG_V zw_748 zw_749 zw_750 zw_2 zw_751) rfl rfl rfl zd_X7_save ⟨(Nat.le_of_ble_eq_true rfl), (Nat.le_of_ble_eq_true rfl)⟩) hK hP hD hS hA [0, 1, 2, 18, 19, 20, 21, 22, 23, 24] [3, 4, 5, 6, 7, 8, 9, 10, 11, 12, 13, 14, 15, 16, 17, 25, 26, 27, 28, 29, 30, 31, 32, 33, 34, 35, 36, 37, 38, 39, 40, 41, 42, 43] [34, 35, 36, 0, 1, 2, 3, 4, 5, 6, 7, 8, 9, 10, 11, 12, 13, 14, 37, 38, 39, 40, 41, 42, 43, 15, 16, 17, 18, 19, 20, 21, 22, 23, 24, 25, 26, 27, 28, 29, 30, 31, 32, 33] rfl (by decide) rfl (by decide) (by decide) (w2 := fun uq_ : Unit => LW ad bd cy m_ ((opSave m_ s_ (xs (i_ + 1))).2) pl_ pd_ c_ rn_ z_ (mU m_) pl_ pd_ f_ u_ l_ s_.2 at_ iw_ tl_ is_ o1_ o2_ o3_ cc_ nx_ sb_ lc_) (fun _ => rfl) (by decide) rfl rfl rfl rfl hl.1 rfl (Nat.le_of_ble_eq_true rfl) dL_law_857 hcs (fun r857 u857 H locs h857 hP hD hS => ?_)
  obtain ⟨hr857, h857⟩ := h857
  have hr857 : r857 = (opSave m_ s_ (xs (i_ + 1))).1 := hr857
  subst hr857
  have hP : va_P D vwCl (LW ad bd cy m_ ((opSave m_ s_ (xs (i_ + 1))).2) pl_ pd_ c_ rn_ z_ (mU m_) pl_ pd_ f_ u_ l_ s_.2 at_ iw_ tl_ is_ o1_ o2_ o3_ cc_ nx_ sb_ lc_) H := hP
  have hD : va_D zA (LW ad bd cy m_ ((opSave m_ s_ (xs (i_ + 1))).2) pl_ pd_ c_ rn_ z_ (mU m_) pl_ pd_ f_ u_ l_ s_.2 at_ iw_ tl_ is_ o1_ o2_ o3_ cc_ nx_ sb_ lc_) := hD
  refine lv_aload_n hx hb dL_law_860 rfl (lv_at hl 2 rfl) ?_
  refine lv_aload_n hx hb dL_law_861 rfl (lv_at hl 0 rfl) ?_
  refine lv_iload_n hx hb dL_law_862 rfl (lv_at hl 3 rfl) ?_
  refine lv_iconst (v := nI 1) hx hb dL_law_863 (by decide) ?_
  refine zi_add (v := nI (i_ + 1)) hx hb dL_law_864 (nI_add _ _) ?_
  refine zi_sld hx hb hX hbl hbA hS (show i_ + 1 < L by omega) (by omega) dL_law_865 ?_
  refine zcWi (As := [.int (xs (i_ + 1))]) (rest := [.int ((opSave m_ s_ (xs (i_ + 1))).1)]) (wr := [0, 1, 2, 3, 4, 5, 6, 7, 8, 9, 10, 11, 12, 13, 14, 15, 16, 17, 18, 19, 20, 21, 22, 23, 24, 25, 26, 27, 28, 31, 34, 35, 36, 37, 38, 39, 40, 41, 42, 43].filterMap (fun i => (LW ad bd cy m_ ((opSave m_ s_ (xs (i_ + 1))).2) pl_ pd_ c_ rn_ z_ (mU m_) pl_ pd_ f_ u_ l_ s_.2 at_ iw_ tl_ is_ o1_ o2_ o3_ cc_ nx_ sb_ lc_)[i]?)) ⟨hx, hb, hml, hown, hts⟩ (c_X8_save l D cy H.size bd m_ pl_ at_ iw_ f_ s_ l_ (xs (i_ + 1)) hw hM.1 hSl) (cwV 1 hts (zG_V zw_753 zw_754 zw_755 zw_5 zw_756) rfl rfl rfl zd_X8_save ⟨(Nat.le_of_ble_eq_true rfl), (Nat.le_of_ble_eq_true rfl)⟩) hK hP hD hS hA [29, 30, 32, 33] [0, 1, 2, 3, 4, 5, 6, 7, 8, 9, 10, 11, 12, 13, 14, 15, 16, 17, 18, 19, 20, 21, 22, 23, 24, 25, 26, 27, 28, 31, 34, 35, 36, 37, 38, 39, 40, 41, 42, 43] [0, 1, 2, 3, 4, 5, 6, 7, 8, 9, 10, 11, 12, 13, 14, 15, 16, 17, 18, 19, 20, 21, 22, 23, 24, 25, 26, 27, 28, 40, 41, 29, 42, 43, 30, 31, 32, 33, 34, 35, 36, 37, 38, 39] rfl (by decide) rfl (by decide) (by decide) (w2 := fun uq_ : (Nat → Nat) => LW ad bd cy m_ ((opSave m_ s_ (xs (i_ + 1))).2) pl_ pd_ c_ rn_ z_ (mU m_) pl_ pd_ f_ u_ uq_ ((opSave m_ s_ (xs (i_ + 1))).2.2) at_ iw_ tl_ is_ o1_ o2_ o3_ cc_ nx_ sb_ lc_) (fun _ => rfl) (by decide) rfl rfl rfl rfl hl.1 rfl (Nat.le_of_ble_eq_true rfl) dL_law_866 hcs (fun r866 u866 H locs h866 hP hD hS => ?_)
  obtain ⟨w_m, rfl⟩ : ∃ z_, z_ = u866 := ⟨_, rfl⟩
  obtain ⟨hr866, h866⟩ := h866
  have hr866 : r866 = (opSave m_ s_ (xs (i_ + 1))).1 := hr866
  have hm : SlR (opSave m_ s_ (xs (i_ + 1))).2 w_m := h866
  subst hr866
  have hP : va_P D vwCl (LW ad bd cy m_ ((opSave m_ s_ (xs (i_ + 1))).2) pl_ pd_ c_ rn_ z_ (mU m_) pl_ pd_ f_ u_ w_m ((opSave m_ s_ (xs (i_ + 1))).2.2) at_ iw_ tl_ is_ o1_ o2_ o3_ cc_ nx_ sb_ lc_) H := hP
  have hD : va_D zA (LW ad bd cy m_ ((opSave m_ s_ (xs (i_ + 1))).2) pl_ pd_ c_ rn_ z_ (mU m_) pl_ pd_ f_ u_ w_m ((opSave m_ s_ (xs (i_ + 1))).2.2) at_ iw_ tl_ is_ o1_ o2_ o3_ cc_ nx_ sb_ lc_) := hD
  refine lv_icmp_eq (tgt := 897) hx hb dL_law_869 (by decide) (fun _ => ?_) (fun hne_ => absurd rfl hne_)
  exact next _ _ ⟨m_, ((opSave m_ s_ (xs (i_ + 1))).2), pl_, pd_, c_, rn_, z_, f_, u_, w_m, at_, iw_, tl_, is_, o1_, o2_, o3_, cc_, nx_, sb_, lc_, ⟨hok, hM, hm, hpdk, (rd_mono hrdk (by omega))⟩, hP, hD, hS⟩ ls hl
set_option maxHeartbeats 4000000 in
set_option maxRecDepth 100000 in
theorem law_restore {p : Program} {l : Launch} {e : Env} {s : State} {m : MethodId} {below : List Frame} {meth : Method} {c : Code} {b L : Nat} {xs : Nat → Int32} {D : va_G} {cy : Nat → ClassId} {ad bd : Nat → Nat} {zA : Nat → Prop} {cells slots : Nat} {Q : State → Prop} (hx : p.tables.exec = Jvm.exec) (hb : c.code = cL_law) (hml : c.maxLocals = 4) (hts : ∀ w ∈ w_law, w.before #[Value.ref b] s = true) (hown : s.vm.findClass RL = some m.cls) (hX : va_X b L xs s s.heap) (hbl : b < s.heap.size) (hbA : ¬ zA b) (hK : zK D cy s) (hA : ∀ q : Nat, s.heap.size ≤ q → zA q) (hcs : cells ≤ room_1.cells ∧ slots ≤ room_1.slots) (hL : L ≤ 2048) {i_ : Nat} (hi : i_ + 4 ≤ L) {H : Heap} {locs : List Loc} (inv : LInv D cy zA s.heap ad bd i_ H locs) (next : ∀ (H : Heap) (locs : List Loc), LInv D cy zA s.heap ad bd (i_ + 4) H locs → ∀ ls : Array Slot, lv_has ls 4 [(0, .ref b), (1, .ref (ad 0)), (2, .ref (bd 0)), (3, .int (nI i_))] → W p l e room_1 s m #[Value.ref b] below meth c H locs cells slots Q (F0 m 897 ls [])) : ∀ ls : Array Slot, lv_has ls 4 [(0, .ref b), (1, .ref (ad 0)), (2, .ref (bd 0)), (3, .int (nI i_))] → W p l e room_1 s m #[Value.ref b] below meth c H locs cells slots Q (F0 m 874 ls []) := by
  intro ls hl
  obtain ⟨m_, s_, pl_, pd_, c_, rn_, z_, f_, u_, l_, at_, iw_, tl_, is_, o1_, o2_, o3_, cc_, nx_, sb_, lc_, ⟨hok, hM, hSl, hpdk, hrdk⟩, hP, hD, hS⟩ := inv
  have hw := hok.1
  have hX6 := hok.2.1
  have hU6 := hok.2.2
  have hp := hpdk.1
  have hpd := hpdk.2
  have hrd := hrdk.1
  have hric2 := hrdk.2
  refine lv_aload_n hx hb dL_law_874 rfl (lv_at hl 1 rfl) ?_
  refine lv_aload_n hx hb dL_law_875 rfl (lv_at hl 0 rfl) ?_
  refine lv_iload_n hx hb dL_law_876 rfl (lv_at hl 3 rfl) ?_
  refine lv_iconst (v := nI 1) hx hb dL_law_877 (by decide) ?_
  refine zi_add (v := nI (i_ + 1)) hx hb dL_law_878 (nI_add _ _) ?_
  refine zi_sld hx hb hX hbl hbA hS (show i_ + 1 < L by omega) (by omega) dL_law_879 ?_
  refine zcWi (As := [.int (xs (i_ + 1))]) (rest := []) (wr := [25, 26, 27, 28, 29, 30, 31, 32, 33, 34, 35, 36, 37, 38, 39, 40, 41, 42, 43].filterMap (fun i => (LW ad bd cy m_ s_ pl_ pd_ c_ rn_ z_ (mU m_) pl_ pd_ f_ u_ l_ s_.2 at_ iw_ tl_ is_ o1_ o2_ o3_ cc_ nx_ sb_ lc_)[i]?)) ⟨hx, hb, hml, hown, hts⟩ (c_X7_restore l D cy H.size ad m_ pl_ s_ (xs (i_ + 1)) hw hX6 hU6) (cwV 1 hts (zG_V zw_757 zw_758 zw_759 zw_2 zw_760) rfl rfl rfl zd_X7_restore ⟨(Nat.le_of_ble_eq_true rfl), (Nat.le_of_ble_eq_true rfl)⟩) hK hP hD hS hA [0, 1, 2, 3, 4, 5, 6, 7, 8, 9, 10, 11, 12, 13, 14, 15, 16, 17, 18, 19, 20, 21, 22, 23, 24] [25, 26, 27, 28, 29, 30, 31, 32, 33, 34, 35, 36, 37, 38, 39, 40, 41, 42, 43] [19, 20, 21, 22, 23, 24, 25, 26, 27, 28, 29, 30, 31, 32, 33, 34, 35, 36, 37, 38, 39, 40, 41, 42, 43, 0, 1, 2, 3, 4, 5, 6, 7, 8, 9, 10, 11, 12, 13, 14, 15, 16, 17, 18] rfl (by decide) rfl (by decide) (by decide) (w2 := fun uq_ : Unit => LW ad bd cy ((opRestore m_ s_ (xs (i_ + 1))).2) s_ pl_ pd_ c_ rn_ z_ (mU m_) pl_ pd_ f_ u_ l_ s_.2 at_ iw_ tl_ is_ o1_ o2_ o3_ cc_ nx_ sb_ lc_) (fun _ => rfl) (by decide) rfl rfl rfl rfl hl.1 rfl (Nat.le_of_ble_eq_true rfl) dL_law_880 hcs (fun r880 u880 H locs h880 hP hD hS => ?_)
  obtain ⟨hr880, h880⟩ := h880
  have hr880 : r880 = (opRestore m_ s_ (xs (i_ + 1))).1 := hr880
  subst hr880
  have hP : va_P D vwCl (LW ad bd cy ((opRestore m_ s_ (xs (i_ + 1))).2) s_ pl_ pd_ c_ rn_ z_ (mU m_) pl_ pd_ f_ u_ l_ s_.2 at_ iw_ tl_ is_ o1_ o2_ o3_ cc_ nx_ sb_ lc_) H := hP
  have hD : va_D zA (LW ad bd cy ((opRestore m_ s_ (xs (i_ + 1))).2) s_ pl_ pd_ c_ rn_ z_ (mU m_) pl_ pd_ f_ u_ l_ s_.2 at_ iw_ tl_ is_ o1_ o2_ o3_ cc_ nx_ sb_ lc_) := hD
  refine lv_aload_n hx hb dL_law_883 rfl (lv_at hl 2 rfl) ?_
  refine lv_aload_n hx hb dL_law_884 rfl (lv_at hl 0 rfl) ?_
  refine lv_iload_n hx hb dL_law_885 rfl (lv_at hl 3 rfl) ?_
  refine lv_iconst (v := nI 1) hx hb dL_law_886 (by decide) ?_
  refine zi_add (v := nI (i_ + 1)) hx hb dL_law_887 (nI_add _ _) ?_
  refine zi_sld hx hb hX hbl hbA hS (show i_ + 1 < L by omega) (by omega) dL_law_888 ?_
  refine zcWi (As := [.int (xs (i_ + 1))]) (rest := [.int ((opRestore m_ s_ (xs (i_ + 1))).1)]) (wr := [0, 1, 2, 3, 4, 5, 6, 7, 8, 9, 10, 11, 12, 13, 14, 15, 16, 17, 18, 19, 20, 21, 22, 23, 24, 25, 26, 27, 28, 34, 35, 36, 37, 38, 39, 40, 41, 42, 43].filterMap (fun i => (LW ad bd cy ((opRestore m_ s_ (xs (i_ + 1))).2) s_ pl_ pd_ c_ rn_ z_ (mU m_) pl_ pd_ f_ u_ l_ s_.2 at_ iw_ tl_ is_ o1_ o2_ o3_ cc_ nx_ sb_ lc_)[i]?)) ⟨hx, hb, hml, hown, hts⟩ (c_X8_restore l D cy H.size bd m_ pl_ at_ iw_ f_ u_ s_ l_ (xs (i_ + 1)) hw hX6 hU6 hM hSl) (cwV 1 hts (zG_V zw_765 zw_766 zw_767 zw_5 zw_768) rfl rfl rfl zd_X8_restore ⟨(Nat.le_of_ble_eq_true rfl), (Nat.le_of_ble_eq_true rfl)⟩) hK hP hD hS hA [29, 30, 31, 32, 33] [0, 1, 2, 3, 4, 5, 6, 7, 8, 9, 10, 11, 12, 13, 14, 15, 16, 17, 18, 19, 20, 21, 22, 23, 24, 25, 26, 27, 28, 34, 35, 36, 37, 38, 39, 40, 41, 42, 43] [0, 1, 2, 3, 4, 5, 6, 7, 8, 9, 10, 11, 12, 13, 14, 15, 16, 17, 18, 19, 20, 21, 22, 23, 24, 25, 26, 27, 28, 39, 40, 41, 42, 43, 29, 30, 31, 32, 33, 34, 35, 36, 37, 38] rfl (by decide) rfl (by decide) (by decide) (w2 := fun uq_ : (Nat → Nat) × (Nat → Nat) => LW ad bd cy ((opRestore m_ s_ (xs (i_ + 1))).2) s_ pl_ pd_ c_ rn_ z_ (mU ((opRestore m_ s_ (xs (i_ + 1))).2)) pl_ pd_ uq_.1 uq_.2 l_ s_.2 at_ iw_ tl_ is_ o1_ o2_ o3_ cc_ nx_ sb_ lc_) (fun _ => rfl) (by decide) rfl rfl rfl rfl hl.1 rfl (Nat.le_of_ble_eq_true rfl) dL_law_889 hcs (fun r889 u889 H locs h889 hP hD hS => ?_)
  obtain ⟨w_m, v_m⟩ := u889
  obtain ⟨hr889, h889⟩ := h889
  have hr889 : r889 = (opRestore m_ s_ (xs (i_ + 1))).1 := hr889
  have hm : MR (opRestore m_ s_ (xs (i_ + 1))).2 w_m v_m := h889
  subst hr889
  have hP : va_P D vwCl (LW ad bd cy ((opRestore m_ s_ (xs (i_ + 1))).2) s_ pl_ pd_ c_ rn_ z_ (mU ((opRestore m_ s_ (xs (i_ + 1))).2)) pl_ pd_ w_m v_m l_ s_.2 at_ iw_ tl_ is_ o1_ o2_ o3_ cc_ nx_ sb_ lc_) H := hP
  have hD : va_D zA (LW ad bd cy ((opRestore m_ s_ (xs (i_ + 1))).2) s_ pl_ pd_ c_ rn_ z_ (mU ((opRestore m_ s_ (xs (i_ + 1))).2)) pl_ pd_ w_m v_m l_ s_.2 at_ iw_ tl_ is_ o1_ o2_ o3_ cc_ nx_ sb_ lc_) := hD
  refine lv_icmp_eq (tgt := 897) hx hb dL_law_892 (by decide) (fun _ => ?_) (fun hne_ => absurd rfl hne_)
  exact next _ _ ⟨((opRestore m_ s_ (xs (i_ + 1))).2), s_, pl_, pd_, c_, rn_, z_, w_m, v_m, l_, at_, iw_, tl_, is_, o1_, o2_, o3_, cc_, nx_, sb_, lc_, ⟨(ok_restore hok hSl (xs (i_ + 1))), hm, hSl, hpdk, (rd_mono hrdk (by omega))⟩, hP, hD, hS⟩ ls hl

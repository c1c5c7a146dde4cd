set_option maxHeartbeats 4000000 in
set_option maxRecDepth 100000 in
theorem law_riffle {p : Program} {l : Launch} {e : Env} {s : State} {m : MethodId} {below : List Frame} {meth : Method} {c : Code} {b L : Nat} {xs : Nat → Int32} {D : va_G} {cy : Nat → ClassId} {ad bd : Nat → Nat} {zA : Nat → Prop} {cells slots : Nat} {Q : State → Prop} (hx : p.tables.exec = Jvm.exec) (hb : c.code = cL_law) (hml : c.maxLocals = 4) (hts : ∀ w ∈ w_law, w.before #[Value.ref b] s = true) (hown : s.vm.findClass RL = some m.cls) (hX : va_X b L xs s s.heap) (hbl : b < s.heap.size) (hbA : ¬ zA b) (hK : zK D cy s) (hA : ∀ q : Nat, s.heap.size ≤ q → zA q) (hcs : cells ≤ room_1.cells ∧ slots ≤ room_1.slots) (hL : L ≤ 2048) {i_ : Nat} (hi : i_ + 4 ≤ L) {H : Heap} {locs : List Loc} (inv : LInv D cy zA s.heap ad bd i_ H locs) (next : ∀ (H : Heap) (locs : List Loc), LInv D cy zA s.heap ad bd (i_ + 4) H locs → ∀ ls : Array Slot, lv_has ls 4 [(0, .ref b), (1, .ref (ad 0)), (2, .ref (bd 0)), (3, .int (nI i_))] → W p l e room_1 s m #[Value.ref b] below meth c H locs cells slots Q (F0 m 897 ls [])) : ∀ ls : Array Slot, lv_has ls 4 [(0, .ref b), (1, .ref (ad 0)), (2, .ref (bd 0)), (3, .int (nI i_))] → W p l e room_1 s m #[Value.ref b] below meth c H locs cells slots Q (F0 m 356 ls []) := by
  intro ls hl
  obtain ⟨m_, s_, pl_, pd_, c_, rn_, z_, f_, u_, l_, at_, iw_, tl_, is_, o1_, o2_, o3_, cc_, nx_, sb_, lc_, ⟨hok, hM, hSl, hpdk, hrdk⟩, hP, hD, hS⟩ := inv
  have hw := hok.1
  have hX6 := hok.2.1
  have hU6 := hok.2.2
  have hp := hpdk.1
  have hpd := hpdk.2
  have hrd := hrdk.1
  have hric2 := hrdk.2
  refine lv_aload_n hx hb dL_law_356 rfl (lv_at hl 1 rfl) ?_
  refine lv_aload_n hx hb dL_law_357 rfl (lv_at hl 0 rfl) ?_
  refine lv_iload_n hx hb dL_law_358 rfl (lv_at hl 3 rfl) ?_
  refine lv_iconst (v := nI 1) hx hb dL_law_359 (by decide) ?_
  refine zi_add (v := nI (i_ + 1)) hx hb dL_law_360 (nI_add _ _) ?_
  refine zi_sld hx hb hX hbl hbA hS (show i_ + 1 < L by omega) (by omega) dL_law_361 ?_
  refine zcWi (As := [.int (xs (i_ + 1))]) (rest := []) (wr := [18, 19, 20, 21, 22, 23, 24, 25, 26, 27, 28, 29, 30, 31, 32, 33, 34, 35, 36, 37, 38, 39, 40, 41, 42, 43].filterMap (fun i => (LW ad bd cy m_ s_ pl_ pd_ c_ rn_ z_ (mU m_) pl_ pd_ f_ u_ l_ s_.2 at_ iw_ tl_ is_ o1_ o2_ o3_ cc_ nx_ sb_ lc_)[i]?)) ⟨hx, hb, hml, hown, hts⟩ (c_X7_riffle l D cy H.size ad m_ pl_ (xs (i_ + 1)) hw hX6 hU6) (cwV 1 hts (zG_V zw_361 zw_362 zw_363 zw_2 zw_364) rfl rfl rfl zd_X7_riffle ⟨(Nat.le_of_ble_eq_true rfl), (Nat.le_of_ble_eq_true rfl)⟩) hK hP hD hS hA [0, 1, 2, 3, 4, 5, 6, 7, 8, 9, 10, 11, 12, 13, 14, 15, 16, 17] [18, 19, 20, 21, 22, 23, 24, 25, 26, 27, 28, 29, 30, 31, 32, 33, 34, 35, 36, 37, 38, 39, 40, 41, 42, 43] [26, 27, 28, 29, 30, 31, 32, 33, 34, 35, 36, 37, 38, 39, 40, 41, 42, 43, 0, 1, 2, 3, 4, 5, 6, 7, 8, 9, 10, 11, 12, 13, 14, 15, 16, 17, 18, 19, 20, 21, 22, 23, 24, 25] rfl (by decide) rfl (by decide) (by decide) (w2 := fun uq_ : Unit => LW ad bd cy ((opRiffle m_ (xs (i_ + 1))).2) s_ pl_ pd_ c_ rn_ z_ (mU m_) pl_ pd_ f_ u_ l_ s_.2 at_ iw_ tl_ is_ o1_ o2_ o3_ cc_ nx_ sb_ lc_) (fun _ => rfl) (by decide) rfl rfl rfl rfl hl.1 rfl (Nat.le_of_ble_eq_true rfl) dL_law_362 hcs (fun r362 u362 H locs h362 hP hD hS => ?_)
  obtain ⟨hr362, h362⟩ := h362
  have hr362 : r362 = (opRiffle m_ (xs (i_ + 1))).1 := hr362
  subst hr362
  have hP : va_P D vwCl (LW ad bd cy ((opRiffle m_ (xs (i_ + 1))).2) s_ pl_ pd_ c_ rn_ z_ (mU m_) pl_ pd_ f_ u_ l_ s_.2 at_ iw_ tl_ is_ o1_ o2_ o3_ cc_ nx_ sb_ lc_) H := hP
  have hD : va_D zA (LW ad bd cy ((opRiffle m_ (xs (i_ + 1))).2) s_ pl_ pd_ c_ rn_ z_ (mU m_) pl_ pd_ f_ u_ l_ s_.2 at_ iw_ tl_ is_ o1_ o2_ o3_ cc_ nx_ sb_ lc_) := hD
  refine lv_aload_n hx hb dL_law_365 rfl (lv_at hl 2 rfl) ?_
  refine lv_aload_n hx hb dL_law_366 rfl (lv_at hl 0 rfl) ?_
  refine lv_iload_n hx hb dL_law_367 rfl (lv_at hl 3 rfl) ?_
  refine lv_iconst (v := nI 1) hx hb dL_law_368 (by decide) ?_
  refine zi_add (v := nI (i_ + 1)) hx hb dL_law_369 (nI_add _ _) ?_
  refine zi_sld hx hb hX hbl hbA hS (show i_ + 1 < L by omega) (by omega) dL_law_370 ?_
  refine zcWi (As := [.int (xs (i_ + 1))]) (rest := [.int ((opRiffle m_ (xs (i_ + 1))).1)]) (wr := [0, 1, 2, 3, 4, 5, 6, 7, 8, 9, 10, 11, 12, 13, 14, 15, 16, 17, 18, 19, 20, 21, 22, 23, 24, 25, 26, 27, 28, 32, 33, 34, 35, 36, 38, 39, 40, 42, 43].filterMap (fun i => (LW ad bd cy ((opRiffle m_ (xs (i_ + 1))).2) s_ pl_ pd_ c_ rn_ z_ (mU m_) pl_ pd_ f_ u_ l_ s_.2 at_ iw_ tl_ is_ o1_ o2_ o3_ cc_ nx_ sb_ lc_)[i]?)) ⟨hx, hb, hml, hown, hts⟩ (c_X8_riffle l D cy H.size bd m_ pl_ at_ iw_ f_ u_ o1_ nx_ (xs (i_ + 1)) hw hX6 hU6 hM) (cwV 1 hts (zG_V zw_374 zw_375 zw_376 zw_5 zw_377) rfl rfl rfl zd_X8_riffle ⟨(Nat.le_of_ble_eq_true rfl), (Nat.le_of_ble_eq_true rfl)⟩) hK hP hD hS hA [29, 30, 31, 37, 41] [0, 1, 2, 3, 4, 5, 6, 7, 8, 9, 10, 11, 12, 13, 14, 15, 16, 17, 18, 19, 20, 21, 22, 23, 24, 25, 26, 27, 28, 32, 33, 34, 35, 36, 38, 39, 40, 42, 43] [0, 1, 2, 3, 4, 5, 6, 7, 8, 9, 10, 11, 12, 13, 14, 15, 16, 17, 18, 19, 20, 21, 22, 23, 24, 25, 26, 27, 28, 39, 40, 41, 29, 30, 31, 32, 33, 42, 34, 35, 36, 43, 37, 38] rfl (by decide) rfl (by decide) (by decide) (w2 := fun uq_ : (Nat → Nat) × (Nat → Nat) × (Nat → Nat) × (Nat → Nat) => LW ad bd cy ((opRiffle m_ (xs (i_ + 1))).2) s_ pl_ pd_ c_ rn_ z_ (mU ((opRiffle m_ (xs (i_ + 1))).2)) pl_ pd_ uq_.1 uq_.2.1 l_ s_.2 at_ iw_ tl_ is_ uq_.2.2.1 o2_ o3_ cc_ uq_.2.2.2 sb_ lc_) (fun _ => rfl) (by decide) rfl rfl rfl rfl hl.1 rfl (Nat.le_of_ble_eq_true rfl) dL_law_371 hcs (fun r371 u371 H locs h371 hP hD hS => ?_)
  obtain ⟨w_m, v_m, y1_m, yx_m⟩ := u371
  obtain ⟨hr371, h371⟩ := h371
  have hr371 : r371 = (opRiffle m_ (xs (i_ + 1))).1 := hr371
  have hm : MR (opRiffle m_ (xs (i_ + 1))).2 w_m v_m := h371
  subst hr371
  have hP : va_P D vwCl (LW ad bd cy ((opRiffle m_ (xs (i_ + 1))).2) s_ pl_ pd_ c_ rn_ z_ (mU ((opRiffle m_ (xs (i_ + 1))).2)) pl_ pd_ w_m v_m l_ s_.2 at_ iw_ tl_ is_ y1_m o2_ o3_ cc_ yx_m sb_ lc_) H := hP
  have hD : va_D zA (LW ad bd cy ((opRiffle m_ (xs (i_ + 1))).2) s_ pl_ pd_ c_ rn_ z_ (mU ((opRiffle m_ (xs (i_ + 1))).2)) pl_ pd_ w_m v_m l_ s_.2 at_ iw_ tl_ is_ y1_m o2_ o3_ cc_ yx_m sb_ lc_) := hD
  refine lv_icmp_eq (tgt := 897) hx hb dL_law_374 (by decide) (fun _ => ?_) (fun hne_ => absurd rfl hne_)
  exact next _ _ ⟨((opRiffle m_ (xs (i_ + 1))).2), s_, pl_, pd_, c_, rn_, z_, w_m, v_m, l_, at_, iw_, tl_, is_, y1_m, o2_, o3_, cc_, yx_m, sb_, lc_, ⟨(ok_riffle hok (xs (i_ + 1))), hm, hSl, hpdk, (rd_mono hrdk (by omega))⟩, hP, hD, hS⟩ ls hl
set_option maxHeartbeats 4000000 in
set_option maxRecDepth 100000 in
theorem law_turn {p : Program} {l : Launch} {e : Env} {s : State} {m : MethodId} {below : List Frame} {meth : Method} {c : Code} {b L : Nat} {xs : Nat → Int32} {D : va_G} {cy : Nat → ClassId} {ad bd : Nat → Nat} {zA : Nat → Prop} {cells slots : Nat} {Q : State → Prop} (hx : p.tables.exec = Jvm.exec) (hb : c.code = cL_law) (hml : c.maxLocals = 4) (hts : ∀ w ∈ w_law, w.before #[Value.ref b] s = true) (hown : s.vm.findClass RL = some m.cls) (hX : va_X b L xs s s.heap) (hbl : b < s.heap.size) (hbA : ¬ zA b) (hK : zK D cy s) (hA : ∀ q : Nat, s.heap.size ≤ q → zA q) (hcs : cells ≤ room_1.cells ∧ slots ≤ room_1.slots) (hL : L ≤ 2048) {i_ : Nat} (hi : i_ + 4 ≤ L) {H : Heap} {locs : List Loc} (inv : LInv D cy zA s.heap ad bd i_ H locs) (next : ∀ (H : Heap) (locs : List Loc), LInv D cy zA s.heap ad bd (i_ + 4) H locs → ∀ ls : Array Slot, lv_has ls 4 [(0, .ref b), (1, .ref (ad 0)), (2, .ref (bd 0)), (3, .int (nI i_))] → W p l e room_1 s m #[Value.ref b] below meth c H locs cells slots Q (F0 m 897 ls [])) : ∀ ls : Array Slot, lv_has ls 4 [(0, .ref b), (1, .ref (ad 0)), (2, .ref (bd 0)), (3, .int (nI i_))] → W p l e room_1 s m #[Value.ref b] below meth c H locs cells slots Q (F0 m 379 ls []) := by
  intro ls hl
  obtain ⟨m_, s_, pl_, pd_, c_, rn_, z_, f_, u_, l_, at_, iw_, tl_, is_, o1_, o2_, o3_, cc_, nx_, sb_, lc_, ⟨hok, hM, hSl, hpdk, hrdk⟩, hP, hD, hS⟩ := inv
  have hw := hok.1
  have hX6 := hok.2.1
  have hU6 := hok.2.2
  have hp := hpdk.1
  have hpd := hpdk.2
  have hrd := hrdk.1
  have hric2 := hrdk.2
  refine lv_aload_n hx hb dL_law_379 rfl (lv_at hl 1 rfl) ?_
  refine zcWi (As := []) (rest := []) (wr := [18, 19, 20, 21, 22, 23, 24, 25, 26, 27, 28, 29, 30, 31, 32, 33, 34, 35, 36, 37, 38, 39, 40, 41, 42, 43].filterMap (fun i => (LW ad bd cy m_ s_ pl_ pd_ c_ rn_ z_ (mU m_) pl_ pd_ f_ u_ l_ s_.2 at_ iw_ tl_ is_ o1_ o2_ o3_ cc_ nx_ sb_ lc_)[i]?)) ⟨hx, hb, hml, hown, hts⟩ (c_X7_turn l D cy H.size ad m_ pl_ hw hX6 hU6) (cwV 0 hts (zG_V zw_382 zw_383 zw_384 zw_2 zw_385) rfl rfl rfl zd_X7_turn ⟨(Nat.le_of_ble_eq_true rfl), (Nat.le_of_ble_eq_true rfl)⟩) hK hP hD hS hA [0, 1, 2, 3, 4, 5, 6, 7, 8, 9, 10, 11, 12, 13, 14, 15, 16, 17] [18, 19, 20, 21, 22, 23, 24, 25, 26, 27, 28, 29, 30, 31, 32, 33, 34, 35, 36, 37, 38, 39, 40, 41, 42, 43] [26, 27, 28, 29, 30, 31, 32, 33, 34, 35, 36, 37, 38, 39, 40, 41, 42, 43, 0, 1, 2, 3, 4, 5, 6, 7, 8, 9, 10, 11, 12, 13, 14, 15, 16, 17, 18, 19, 20, 21, 22, 23, 24, 25] rfl (by decide) rfl (by decide) (by decide) (w2 := fun uq_ : Unit => LW ad bd cy ((opTurn m_).2) s_ pl_ pd_ c_ rn_ z_ (mU m_) pl_ pd_ f_ u_ l_ s_.2 at_ iw_ tl_ is_ o1_ o2_ o3_ cc_ nx_ sb_ lc_) (fun _ => rfl) (by decide) rfl rfl rfl rfl hl.1 rfl (Nat.le_of_ble_eq_true rfl) dL_law_380 hcs (fun r380 u380 H locs h380 hP hD hS => ?_)
  obtain ⟨hr380, h380⟩ := h380
  have hr380 : r380 = (opTurn m_).1 := hr380
  subst hr380
  have hP : va_P D vwCl (LW ad bd cy ((opTurn m_).2) s_ pl_ pd_ c_ rn_ z_ (mU m_) pl_ pd_ f_ u_ l_ s_.2 at_ iw_ tl_ is_ o1_ o2_ o3_ cc_ nx_ sb_ lc_) H := hP
  have hD : va_D zA (LW ad bd cy ((opTurn m_).2) s_ pl_ pd_ c_ rn_ z_ (mU m_) pl_ pd_ f_ u_ l_ s_.2 at_ iw_ tl_ is_ o1_ o2_ o3_ cc_ nx_ sb_ lc_) := hD
  refine lv_aload_n hx hb dL_law_383 rfl (lv_at hl 2 rfl) ?_
  refine zcWi (As := []) (rest := [.int ((opTurn m_).1)]) (wr := [0, 1, 2, 3, 4, 5, 6, 7, 8, 9, 10, 11, 12, 13, 14, 15, 16, 17, 18, 19, 20, 21, 22, 23, 24, 25, 26, 27, 28, 32, 33, 34, 35, 36, 38, 39, 40, 42, 43].filterMap (fun i => (LW ad bd cy ((opTurn m_).2) s_ pl_ pd_ c_ rn_ z_ (mU m_) pl_ pd_ f_ u_ l_ s_.2 at_ iw_ tl_ is_ o1_ o2_ o3_ cc_ nx_ sb_ lc_)[i]?)) ⟨hx, hb, hml, hown, hts⟩ (c_X8_turn l D cy H.size bd m_ pl_ at_ iw_ f_ u_ o1_ nx_ hw hX6 hU6 hM) (cwV 0 hts (zG_V zw_386 zw_387 zw_388 zw_5 zw_389) rfl rfl rfl zd_X8_turn ⟨(Nat.le_of_ble_eq_true rfl), (Nat.le_of_ble_eq_true rfl)⟩) hK hP hD hS hA [29, 30, 31, 37, 41] [0, 1, 2, 3, 4, 5, 6, 7, 8, 9, 10, 11, 12, 13, 14, 15, 16, 17, 18, 19, 20, 21, 22, 23, 24, 25, 26, 27, 28, 32, 33, 34, 35, 36, 38, 39, 40, 42, 43] [0, 1, 2, 3, 4, 5, 6, 7, 8, 9, 10, 11, 12, 13, 14, 15, 16, 17, 18, 19, 20, 21, 22, 23, 24, 25, 26, 27, 28, 39, 40, 41, 29, 30, 31, 32, 33, 42, 34, 35, 36, 43, 37, 38] rfl (by decide) rfl (by decide) (by decide) (w2 := fun uq_ : (Nat → Nat) × (Nat → Nat) × (Nat → Nat) × (Nat → Nat) => LW ad bd cy ((opTurn m_).2) s_ pl_ pd_ c_ rn_ z_ (mU ((opTurn m_).2)) pl_ pd_ uq_.1 uq_.2.1 l_ s_.2 at_ iw_ tl_ is_ uq_.2.2.1 o2_ o3_ cc_ uq_.2.2.2 sb_ lc_) (fun _ => rfl) (by decide) rfl rfl rfl rfl hl.1 rfl (Nat.le_of_ble_eq_true rfl) dL_law_384 hcs (fun r384 u384 H locs h384 hP hD hS => ?_)
  obtain ⟨w_m, v_m, y1_m, yx_m⟩ := u384
  obtain ⟨hr384, h384⟩ := h384
  have hr384 : r384 = (opTurn m_).1 := hr384
  have hm : MR (opTurn m_).2 w_m v_m := h384
  subst hr384
  have hP : va_P D vwCl (LW ad bd cy ((opTurn m_).2) s_ pl_ pd_ c_ rn_ z_ (mU ((opTurn m_).2)) pl_ pd_ w_m v_m l_ s_.2 at_ iw_ tl_ is_ y1_m o2_ o3_ cc_ yx_m sb_ lc_) H := hP
  have hD : va_D zA (LW ad bd cy ((opTurn m_).2) s_ pl_ pd_ c_ rn_ z_ (mU ((opTurn m_).2)) pl_ pd_ w_m v_m l_ s_.2 at_ iw_ tl_ is_ y1_m o2_ o3_ cc_ yx_m sb_ lc_) := hD
  refine lv_icmp_eq (tgt := 897) hx hb dL_law_387 (by decide) (fun _ => ?_) (fun hne_ => absurd rfl hne_)
  exact next _ _ ⟨((opTurn m_).2), s_, pl_, pd_, c_, rn_, z_, w_m, v_m, l_, at_, iw_, tl_, is_, y1_m, o2_, o3_, cc_, yx_m, sb_, lc_, ⟨(ok_turn hok), hm, hSl, hpdk, (rd_mono hrdk (by omega))⟩, hP, hD, hS⟩ ls hl
set_option maxHeartbeats 4000000 in
set_option maxRecDepth 100000 in
theorem law_restart {p : Program} {l : Launch} {e : Env} {s : State} {m : MethodId} {below : List Frame} {meth : Method} {c : Code} {b L : Nat} {xs : Nat → Int32} {D : va_G} {cy : Nat → ClassId} {ad bd : Nat → Nat} {zA : Nat → Prop} {cells slots : Nat} {Q : State → Prop} (hx : p.tables.exec = Jvm.exec) (hb : c.code = cL_law) (hml : c.maxLocals = 4) (hts : ∀ w ∈ w_law, w.before #[Value.ref b] s = true) (hown : s.vm.findClass RL = some m.cls) (hX : va_X b L xs s s.heap) (hbl : b < s.heap.size) (hbA : ¬ zA b) (hK : zK D cy s) (hA : ∀ q : Nat, s.heap.size ≤ q → zA q) (hcs : cells ≤ room_1.cells ∧ slots ≤ room_1.slots) (hL : L ≤ 2048) {i_ : Nat} (hi : i_ + 4 ≤ L) {H : Heap} {locs : List Loc} (inv : LInv D cy zA s.heap ad bd i_ H locs) (next : ∀ (H : Heap) (locs : List Loc), LInv D cy zA s.heap ad bd (i_ + 4) H locs → ∀ ls : Array Slot, lv_has ls 4 [(0, .ref b), (1, .ref (ad 0)), (2, .ref (bd 0)), (3, .int (nI i_))] → W p l e room_1 s m #[Value.ref b] below meth c H locs cells slots Q (F0 m 897 ls [])) : ∀ ls : Array Slot, lv_has ls 4 [(0, .ref b), (1, .ref (ad 0)), (2, .ref (bd 0)), (3, .int (nI i_))] → W p l e room_1 s m #[Value.ref b] below meth c H locs cells slots Q (F0 m 392 ls []) := by
  intro ls hl
  obtain ⟨m_, s_, pl_, pd_, c_, rn_, z_, f_, u_, l_, at_, iw_, tl_, is_, o1_, o2_, o3_, cc_, nx_, sb_, lc_, ⟨hok, hM, hSl, hpdk, hrdk⟩, hP, hD, hS⟩ := inv
  have hw := hok.1
  have hX6 := hok.2.1
  have hU6 := hok.2.2
  have hp := hpdk.1
  have hpd := hpdk.2
  have hrd := hrdk.1
  have hric2 := hrdk.2
  refine lv_aload_n hx hb dL_law_392 rfl (lv_at hl 1 rfl) ?_
  refine zcWi (As := []) (rest := []) (wr := [18, 19, 20, 21, 22, 23, 24, 25, 26, 27, 28, 29, 30, 31, 32, 33, 34, 35, 36, 37, 38, 39, 40, 41, 42, 43].filterMap (fun i => (LW ad bd cy m_ s_ pl_ pd_ c_ rn_ z_ (mU m_) pl_ pd_ f_ u_ l_ s_.2 at_ iw_ tl_ is_ o1_ o2_ o3_ cc_ nx_ sb_ lc_)[i]?)) ⟨hx, hb, hml, hown, hts⟩ (c_X7_restart l D cy H.size ad m_ pl_ hw hX6 hU6) (cwV 0 hts (zG_V zw_394 zw_395 zw_396 zw_2 zw_397) rfl rfl rfl zd_X7_restart ⟨(Nat.le_of_ble_eq_true rfl), (Nat.le_of_ble_eq_true rfl)⟩) hK hP hD hS hA [0, 1, 2, 3, 4, 5, 6, 7, 8, 9, 10, 11, 12, 13, 14, 15, 16, 17] [18, 19, 20, 21, 22, 23, 24, 25, 26, 27, 28, 29, 30, 31, 32, 33, 34, 35, 36, 37, 38, 39, 40, 41, 42, 43] [26, 27, 28, 29, 30, 31, 32, 33, 34, 35, 36, 37, 38, 39, 40, 41, 42, 43, 0, 1, 2, 3, 4, 5, 6, 7, 8, 9, 10, 11, 12, 13, 14, 15, 16, 17, 18, 19, 20, 21, 22, 23, 24, 25] rfl (by decide) rfl (by decide) (by decide) (w2 := fun uq_ : Unit => LW ad bd cy ((opRestart m_).2) s_ pl_ pd_ c_ rn_ z_ (mU m_) pl_ pd_ f_ u_ l_ s_.2 at_ iw_ tl_ is_ o1_ o2_ o3_ cc_ nx_ sb_ lc_) (fun _ => rfl) (by decide) rfl rfl rfl rfl hl.1 rfl (Nat.le_of_ble_eq_true rfl) dL_law_393 hcs (fun r393 u393 H locs h393 hP hD hS => ?_)
  obtain ⟨hr393, h393⟩ := h393
  have hr393 : r393 = (opRestart m_).1 := hr393
  subst hr393
  have hP : va_P D vwCl (LW ad bd cy ((opRestart m_).2) s_ pl_ pd_ c_ rn_ z_ (mU m_) pl_ pd_ f_ u_ l_ s_.2 at_ iw_ tl_ is_ o1_ o2_ o3_ cc_ nx_ sb_ lc_) H := hP
  have hD : va_D zA (LW ad bd cy ((opRestart m_).2) s_ pl_ pd_ c_ rn_ z_ (mU m_) pl_ pd_ f_ u_ l_ s_.2 at_ iw_ tl_ is_ o1_ o2_ o3_ cc_ nx_ sb_ lc_) := hD
  refine lv_aload_n hx hb dL_law_396 rfl (lv_at hl 2 rfl) ?_
  refine zcWi (As := []) (rest := [.int ((opRestart m_).1)]) (wr := [0, 1, 2, 3, 4, 5, 6, 7, 8, 9, 10, 11, 12, 13, 14, 15, 16, 17, 18, 19, 20, 21, 22, 23, 24, 25, 26, 27, 28, 32, 33, 34, 35, 36, 37, 38, 39, 40, 41, 42, 43].filterMap (fun i => (LW ad bd cy ((opRestart m_).2) s_ pl_ pd_ c_ rn_ z_ (mU m_) pl_ pd_ f_ u_ l_ s_.2 at_ iw_ tl_ is_ o1_ o2_ o3_ cc_ nx_ sb_ lc_)[i]?)) ⟨hx, hb, hml, hown, hts⟩ (c_X8_restart l D cy H.size bd m_ pl_ at_ iw_ f_ u_ hw hX6 hU6 hM) (cwV 0 hts (zG_V zw_413 zw_414 zw_415 zw_5 zw_416) rfl rfl rfl zd_X8_restart ⟨(Nat.le_of_ble_eq_true rfl), (Nat.le_of_ble_eq_true rfl)⟩) hK hP hD hS hA [29, 30, 31] [0, 1, 2, 3, 4, 5, 6, 7, 8, 9, 10, 11, 12, 13, 14, 15, 16, 17, 18, 19, 20, 21, 22, 23, 24, 25, 26, 27, 28, 32, 33, 34, 35, 36, 37, 38, 39, 40, 41, 42, 43] [0, 1, 2, 3, 4, 5, 6, 7, 8, 9, 10, 11, 12, 13, 14, 15, 16, 17, 18, 19, 20, 21, 22, 23, 24, 25, 26, 27, 28, 41, 42, 43, 29, 30, 31, 32, 33, 34, 35, 36, 37, 38, 39, 40] rfl (by decide) rfl (by decide) (by decide) (w2 := fun uq_ : (Nat → Nat) × (Nat → Nat) => LW ad bd cy ((opRestart m_).2) s_ pl_ pd_ c_ rn_ z_ (mU ((opRestart m_).2)) pl_ pd_ uq_.1 uq_.2 l_ s_.2 at_ iw_ tl_ is_ o1_ o2_ o3_ cc_ nx_ sb_ lc_) (fun _ => rfl) (by decide) rfl rfl rfl rfl hl.1 rfl (Nat.le_of_ble_eq_true rfl) dL_law_397 hcs (fun r397 u397 H locs h397 hP hD hS => ?_)
  obtain ⟨w_m, v_m⟩ := u397
  obtain ⟨hr397, h397⟩ := h397
  have hr397 : r397 = (opRestart m_).1 := hr397
  have hm : MR (opRestart m_).2 w_m v_m := h397
  subst hr397
  have hP : va_P D vwCl (LW ad bd cy ((opRestart m_).2) s_ pl_ pd_ c_ rn_ z_ (mU ((opRestart m_).2)) pl_ pd_ w_m v_m l_ s_.2 at_ iw_ tl_ is_ o1_ o2_ o3_ cc_ nx_ sb_ lc_) H := hP
  have hD : va_D zA (LW ad bd cy ((opRestart m_).2) s_ pl_ pd_ c_ rn_ z_ (mU ((opRestart m_).2)) pl_ pd_ w_m v_m l_ s_.2 at_ iw_ tl_ is_ o1_ o2_ o3_ cc_ nx_ sb_ lc_) := hD
  refine lv_icmp_eq (tgt := 897) hx hb dL_law_400 (by decide) (fun _ => ?_) (fun hne_ => absurd rfl hne_)
  exact next _ _ ⟨((opRestart m_).2), s_, pl_, pd_, c_, rn_, z_, w_m, v_m, l_, at_, iw_, tl_, is_, o1_, o2_, o3_, cc_, nx_, sb_, lc_, ⟨(ok_restart hok), hm, hSl, hpdk, (rd_mono hrdk (by omega))⟩, hP, hD, hS⟩ ls hl
set_option maxHeartbeats 4000000 in
set_option maxRecDepth 100000 in
theorem law_at {p : Program} {l : Launch} {e : Env} {s : State} {m : MethodId} {below : List Frame} {meth : Method} {c : Code} {b L : Nat} {xs : Nat → Int32} {D : va_G} {cy : Nat → ClassId} {ad bd : Nat → Nat} {zA : Nat → Prop} {cells slots : Nat} {Q : State → Prop} (hx : p.tables.exec = Jvm.exec) (hb : c.code = cL_law) (hml : c.maxLocals = 4) (hts : ∀ w ∈ w_law, w.before #[Value.ref b] s = true) (hown : s.vm.findClass RL = some m.cls) (hX : va_X b L xs s s.heap) (hbl : b < s.heap.size) (hbA : ¬ zA b) (hK : zK D cy s) (hA : ∀ q : Nat, s.heap.size ≤ q → zA q) (hcs : cells ≤ room_1.cells ∧ slots ≤ room_1.slots) (hL : L ≤ 2048) {i_ : Nat} (hi : i_ + 4 ≤ L) {H : Heap} {locs : List Loc} (inv : LInv D cy zA s.heap ad bd i_ H locs) (next : ∀ (H : Heap) (locs : List Loc), LInv D cy zA s.heap ad bd (i_ + 4) H locs → ∀ ls : Array Slot, lv_has ls 4 [(0, .ref b), (1, .ref (ad 0)), (2, .ref (bd 0)), (3, .int (nI i_))] → W p l e room_1 s m #[Value.ref b] below meth c H locs cells slots Q (F0 m 897 ls [])) : ∀ ls : Array Slot, lv_has ls 4 [(0, .ref b), (1, .ref (ad 0)), (2, .ref (bd 0)), (3, .int (nI i_))] → W p l e room_1 s m #[Value.ref b] below meth c H locs cells slots Q (F0 m 405 ls []) := by
  intro ls hl
  obtain ⟨m_, s_, pl_, pd_, c_, rn_, z_, f_, u_, l_, at_, iw_, tl_, is_, o1_, o2_, o3_, cc_, nx_, sb_, lc_, ⟨hok, hM, hSl, hpdk, hrdk⟩, hP, hD, hS⟩ := inv
  have hw := hok.1
  have hX6 := hok.2.1
  have hU6 := hok.2.2
  have hp := hpdk.1
  have hpd := hpdk.2
  have hrd := hrdk.1
  have hric2 := hrdk.2
  refine lv_aload_n hx hb dL_law_405 rfl (lv_at hl 1 rfl) ?_
  refine lv_aload_n hx hb dL_law_406 rfl (lv_at hl 0 rfl) ?_
  refine lv_iload_n hx hb dL_law_407 rfl (lv_at hl 3 rfl) ?_
  refine lv_iconst (v := nI 1) hx hb dL_law_408 (by decide) ?_
  refine zi_add (v := nI (i_ + 1)) hx hb dL_law_409 (nI_add _ _) ?_
  refine zi_sld hx hb hX hbl hbA hS (show i_ + 1 < L by omega) (by omega) dL_law_410 ?_
  refine zcRi (As := [.int (xs (i_ + 1))]) (rest := []) ⟨hx, hb, hml, hown, hts⟩ (c_X7_at l D cy ad m_ pl_ (xs (i_ + 1)) hw) (cwV 1 hts (zG_V zw_421 zw_422 zw_423 zw_2 zw_424) rfl rfl rfl zd_X7_at ⟨(Nat.le_of_ble_eq_true rfl), (Nat.le_of_ble_eq_true rfl)⟩) hK hP [0, 1] rfl rfl rfl rfl rfl hl.1 rfl (Nat.le_of_ble_eq_true rfl) dL_law_411 hcs (fun r411 h411 => ?_)
  subst h411
  refine lv_aload_n hx hb dL_law_414 rfl (lv_at hl 2 rfl) ?_
  refine lv_aload_n hx hb dL_law_415 rfl (lv_at hl 0 rfl) ?_
  refine lv_iload_n hx hb dL_law_416 rfl (lv_at hl 3 rfl) ?_
  refine lv_iconst (v := nI 1) hx hb dL_law_417 (by decide) ?_
  refine zi_add (v := nI (i_ + 1)) hx hb dL_law_418 (nI_add _ _) ?_
  refine zi_sld hx hb hX hbl hbA hS (show i_ + 1 < L by omega) (by omega) dL_law_419 ?_
  refine zcWi (As := [.int (xs (i_ + 1))]) (rest := [.int (qAt m_ (xs (i_ + 1)))]) (wr := [0, 1, 2, 3, 4, 5, 6, 7, 8, 9, 10, 11, 12, 13, 14, 15, 16, 17, 18, 19, 20, 21, 22, 23, 24, 25, 26, 27, 28, 31, 32, 33, 34, 35, 36, 37, 38, 39, 40, 41, 42, 43].filterMap (fun i => (LW ad bd cy m_ s_ pl_ pd_ c_ rn_ z_ (mU m_) pl_ pd_ f_ u_ l_ s_.2 at_ iw_ tl_ is_ o1_ o2_ o3_ cc_ nx_ sb_ lc_)[i]?)) ⟨hx, hb, hml, hown, hts⟩ (c_X8_at l D cy H.size bd (mU m_) pl_ at_ iw_ f_ m_ (xs (i_ + 1)) hw hM.1) (cwV 1 hts (zG_V zw_425 zw_426 zw_427 zw_5 zw_428) rfl rfl rfl zd_X8_at ⟨(Nat.le_of_ble_eq_true rfl), (Nat.le_of_ble_eq_true rfl)⟩) hK hP hD hS hA [29, 30] [0, 1, 2, 3, 4, 5, 6, 7, 8, 9, 10, 11, 12, 13, 14, 15, 16, 17, 18, 19, 20, 21, 22, 23, 24, 25, 26, 27, 28, 31, 32, 33, 34, 35, 36, 37, 38, 39, 40, 41, 42, 43] [0, 1, 2, 3, 4, 5, 6, 7, 8, 9, 10, 11, 12, 13, 14, 15, 16, 17, 18, 19, 20, 21, 22, 23, 24, 25, 26, 27, 28, 42, 43, 29, 30, 31, 32, 33, 34, 35, 36, 37, 38, 39, 40, 41] rfl (by decide) rfl (by decide) (by decide) (w2 := fun uq_ : Unit => LW ad bd cy m_ s_ pl_ pd_ c_ rn_ z_ (mU m_) pl_ pd_ f_ u_ l_ s_.2 at_ iw_ tl_ is_ o1_ o2_ o3_ cc_ nx_ sb_ lc_) (fun _ => rfl) (by decide) rfl rfl rfl rfl hl.1 rfl (Nat.le_of_ble_eq_true rfl) dL_law_420 hcs (fun r420 u420 H locs h420 hP hD hS => ?_)
  obtain ⟨hr420, h420⟩ := h420
  have hr420 : r420 = qAt m_ (xs (i_ + 1)) := hr420
  subst hr420
  have hP : va_P D vwCl (LW ad bd cy m_ s_ pl_ pd_ c_ rn_ z_ (mU m_) pl_ pd_ f_ u_ l_ s_.2 at_ iw_ tl_ is_ o1_ o2_ o3_ cc_ nx_ sb_ lc_) H := hP
  have hD : va_D zA (LW ad bd cy m_ s_ pl_ pd_ c_ rn_ z_ (mU m_) pl_ pd_ f_ u_ l_ s_.2 at_ iw_ tl_ is_ o1_ o2_ o3_ cc_ nx_ sb_ lc_) := hD
  refine lv_icmp_eq (tgt := 897) hx hb dL_law_423 (by decide) (fun _ => ?_) (fun hne_ => absurd rfl hne_)
  exact next _ _ ⟨m_, s_, pl_, pd_, c_, rn_, z_, f_, u_, l_, at_, iw_, tl_, is_, o1_, o2_, o3_, cc_, nx_, sb_, lc_, ⟨hok, hM, hSl, hpdk, (rd_mono hrdk (by omega))⟩, hP, hD, hS⟩ ls hl
set_option maxHeartbeats 4000000 in
set_option maxRecDepth 100000 in
theorem law_where {p : Program} {l : Launch} {e : Env} {s : State} {m : MethodId} {below : List Frame} {meth : Method} {c : Code} {b L : Nat} {xs : Nat → Int32} {D : va_G} {cy : Nat → ClassId} {ad bd : Nat → Nat} {zA : Nat → Prop} {cells slots : Nat} {Q : State → Prop} (hx : p.tables.exec = Jvm.exec) (hb : c.code = cL_law) (hml : c.maxLocals = 4) (hts : ∀ w ∈ w_law, w.before #[Value.ref b] s = true) (hown : s.vm.findClass RL = some m.cls) (hX : va_X b L xs s s.heap) (hbl : b < s.heap.size) (hbA : ¬ zA b) (hK : zK D cy s) (hA : ∀ q : Nat, s.heap.size ≤ q → zA q) (hcs : cells ≤ room_1.cells ∧ slots ≤ room_1.slots) (hL : L ≤ 2048) {i_ : Nat} (hi : i_ + 4 ≤ L) {H : Heap} {locs : List Loc} (inv : LInv D cy zA s.heap ad bd i_ H locs) (next : ∀ (H : Heap) (locs : List Loc), LInv D cy zA s.heap ad bd (i_ + 4) H locs → ∀ ls : Array Slot, lv_has ls 4 [(0, .ref b), (1, .ref (ad 0)), (2, .ref (bd 0)), (3, .int (nI i_))] → W p l e room_1 s m #[Value.ref b] below meth c H locs cells slots Q (F0 m 897 ls [])) : ∀ ls : Array Slot, lv_has ls 4 [(0, .ref b), (1, .ref (ad 0)), (2, .ref (bd 0)), (3, .int (nI i_))] → W p l e room_1 s m #[Value.ref b] below meth c H locs cells slots Q (F0 m 428 ls []) := by
  intro ls hl
  obtain ⟨m_, s_, pl_, pd_, c_, rn_, z_, f_, u_, l_, at_, iw_, tl_, is_, o1_, o2_, o3_, cc_, nx_, sb_, lc_, ⟨hok, hM, hSl, hpdk, hrdk⟩, hP, hD, hS⟩ := inv
  have hw := hok.1
  have hX6 := hok.2.1
  have hU6 := hok.2.2
  have hp := hpdk.1
  have hpd := hpdk.2
  have hrd := hrdk.1
  have hric2 := hrdk.2
  refine lv_aload_n hx hb dL_law_428 rfl (lv_at hl 1 rfl) ?_
  refine lv_aload_n hx hb dL_law_429 rfl (lv_at hl 0 rfl) ?_
  refine lv_iload_n hx hb dL_law_430 rfl (lv_at hl 3 rfl) ?_
  refine lv_iconst (v := nI 1) hx hb dL_law_431 (by decide) ?_
  refine zi_add (v := nI (i_ + 1)) hx hb dL_law_432 (nI_add _ _) ?_
  refine zi_sld hx hb hX hbl hbA hS (show i_ + 1 < L by omega) (by omega) dL_law_433 ?_
  refine zcRi (As := [.int (xs (i_ + 1))]) (rest := []) ⟨hx, hb, hml, hown, hts⟩ (c_X7_where l D cy ad m_ pl_ (xs (i_ + 1)) hw) (cwV 1 hts (zG_V zw_429 zw_430 zw_431 zw_2 zw_432) rfl rfl rfl zd_X7_where ⟨(Nat.le_of_ble_eq_true rfl), (Nat.le_of_ble_eq_true rfl)⟩) hK hP [0, 1] rfl rfl rfl rfl rfl hl.1 rfl (Nat.le_of_ble_eq_true rfl) dL_law_434 hcs (fun r434 h434 => ?_)
  subst h434
  refine lv_aload_n hx hb dL_law_437 rfl (lv_at hl 2 rfl) ?_
  refine lv_aload_n hx hb dL_law_438 rfl (lv_at hl 0 rfl) ?_
  refine lv_iload_n hx hb dL_law_439 rfl (lv_at hl 3 rfl) ?_
  refine lv_iconst (v := nI 1) hx hb dL_law_440 (by decide) ?_
  refine zi_add (v := nI (i_ + 1)) hx hb dL_law_441 (nI_add _ _) ?_
  refine zi_sld hx hb hX hbl hbA hS (show i_ + 1 < L by omega) (by omega) dL_law_442 ?_
  refine zcWi (As := [.int (xs (i_ + 1))]) (rest := [.int (qWhere m_ (xs (i_ + 1)))]) (wr := [0, 1, 2, 3, 4, 5, 6, 7, 8, 9, 10, 11, 12, 13, 14, 15, 16, 17, 18, 19, 20, 21, 22, 23, 24, 25, 26, 27, 28, 31, 32, 33, 34, 35, 36, 37, 38, 39, 40, 41, 42, 43].filterMap (fun i => (LW ad bd cy m_ s_ pl_ pd_ c_ rn_ z_ (mU m_) pl_ pd_ f_ u_ l_ s_.2 at_ iw_ tl_ is_ o1_ o2_ o3_ cc_ nx_ sb_ lc_)[i]?)) ⟨hx, hb, hml, hown, hts⟩ (c_X8_where l D cy H.size bd (mU m_) pl_ at_ iw_ f_ m_ (xs (i_ + 1)) hw hM.1) (cwV 1 hts (zG_V zw_434 zw_435 zw_436 zw_5 zw_437) rfl rfl rfl zd_X8_where ⟨(Nat.le_of_ble_eq_true rfl), (Nat.le_of_ble_eq_true rfl)⟩) hK hP hD hS hA [29, 30] [0, 1, 2, 3, 4, 5, 6, 7, 8, 9, 10, 11, 12, 13, 14, 15, 16, 17, 18, 19, 20, 21, 22, 23, 24, 25, 26, 27, 28, 31, 32, 33, 34, 35, 36, 37, 38, 39, 40, 41, 42, 43] [0, 1, 2, 3, 4, 5, 6, 7, 8, 9, 10, 11, 12, 13, 14, 15, 16, 17, 18, 19, 20, 21, 22, 23, 24, 25, 26, 27, 28, 42, 43, 29, 30, 31, 32, 33, 34, 35, 36, 37, 38, 39, 40, 41] rfl (by decide) rfl (by decide) (by decide) (w2 := fun uq_ : Unit => LW ad bd cy m_ s_ pl_ pd_ c_ rn_ z_ (mU m_) pl_ pd_ f_ u_ l_ s_.2 at_ iw_ tl_ is_ o1_ o2_ o3_ cc_ nx_ sb_ lc_) (fun _ => rfl) (by decide) rfl rfl rfl rfl hl.1 rfl (Nat.le_of_ble_eq_true rfl) dL_law_443 hcs (fun r443 u443 H locs h443 hP hD hS => ?_)
  obtain ⟨hr443, h443⟩ := h443
  have hr443 : r443 = qWhere m_ (xs (i_ + 1)) := hr443
  subst hr443
  have hP : va_P D vwCl (LW ad bd cy m_ s_ pl_ pd_ c_ rn_ z_ (mU m_) pl_ pd_ f_ u_ l_ s_.2 at_ iw_ tl_ is_ o1_ o2_ o3_ cc_ nx_ sb_ lc_) H := hP
  have hD : va_D zA (LW ad bd cy m_ s_ pl_ pd_ c_ rn_ z_ (mU m_) pl_ pd_ f_ u_ l_ s_.2 at_ iw_ tl_ is_ o1_ o2_ o3_ cc_ nx_ sb_ lc_) := hD
  refine lv_icmp_eq (tgt := 897) hx hb dL_law_446 (by decide) (fun _ => ?_) (fun hne_ => absurd rfl hne_)
  exact next _ _ ⟨m_, s_, pl_, pd_, c_, rn_, z_, f_, u_, l_, at_, iw_, tl_, is_, o1_, o2_, o3_, cc_, nx_, sb_, lc_, ⟨hok, hM, hSl, hpdk, (rd_mono hrdk (by omega))⟩, hP, hD, hS⟩ ls hl
set_option maxHeartbeats 4000000 in
set_option maxRecDepth 100000 in
theorem law_of {p : Program} {l : Launch} {e : Env} {s : State} {m : MethodId} {below : List Frame} {meth : Method} {c : Code} {b L : Nat} {xs : Nat → Int32} {D : va_G} {cy : Nat → ClassId} {ad bd : Nat → Nat} {zA : Nat → Prop} {cells slots : Nat} {Q : State → Prop} (hx : p.tables.exec = Jvm.exec) (hb : c.code = cL_law) (hml : c.maxLocals = 4) (hts : ∀ w ∈ w_law, w.before #[Value.ref b] s = true) (hown : s.vm.findClass RL = some m.cls) (hX : va_X b L xs s s.heap) (hbl : b < s.heap.size) (hbA : ¬ zA b) (hK : zK D cy s) (hA : ∀ q : Nat, s.heap.size ≤ q → zA q) (hcs : cells ≤ room_1.cells ∧ slots ≤ room_1.slots) (hL : L ≤ 2048) {i_ : Nat} (hi : i_ + 4 ≤ L) {H : Heap} {locs : List Loc} (inv : LInv D cy zA s.heap ad bd i_ H locs) (next : ∀ (H : Heap) (locs : List Loc), LInv D cy zA s.heap ad bd (i_ + 4) H locs → ∀ ls : Array Slot, lv_has ls 4 [(0, .ref b), (1, .ref (ad 0)), (2, .ref (bd 0)), (3, .int (nI i_))] → W p l e room_1 s m #[Value.ref b] below meth c H locs cells slots Q (F0 m 897 ls [])) : ∀ ls : Array Slot, lv_has ls 4 [(0, .ref b), (1, .ref (ad 0)), (2, .ref (bd 0)), (3, .int (nI i_))] → W p l e room_1 s m #[Value.ref b] below meth c H locs cells slots Q (F0 m 451 ls []) := by
  intro ls hl
  obtain ⟨m_, s_, pl_, pd_, c_, rn_, z_, f_, u_, l_, at_, iw_, tl_, is_, o1_, o2_, o3_, cc_, nx_, sb_, lc_, ⟨hok, hM, hSl, hpdk, hrdk⟩, hP, hD, hS⟩ := inv
  have hw := hok.1
  have hX6 := hok.2.1
  have hU6 := hok.2.2
  have hp := hpdk.1
  have hpd := hpdk.2
  have hrd := hrdk.1
  have hric2 := hrdk.2
  refine lv_aload_n hx hb dL_law_451 rfl (lv_at hl 1 rfl) ?_
  refine lv_aload_n hx hb dL_law_452 rfl (lv_at hl 0 rfl) ?_
  refine lv_iload_n hx hb dL_law_453 rfl (lv_at hl 3 rfl) ?_
  refine lv_iconst (v := nI 1) hx hb dL_law_454 (by decide) ?_
  refine zi_add (v := nI (i_ + 1)) hx hb dL_law_455 (nI_add _ _) ?_
  refine zi_sld hx hb hX hbl hbA hS (show i_ + 1 < L by omega) (by omega) dL_law_456 ?_
  refine lv_aload_n hx hb dL_law_457 rfl (lv_at hl 0 rfl) ?_
  refine lv_iload_n hx hb dL_law_458 rfl (lv_at hl 3 rfl) ?_
  refine lv_iconst (v := nI 2) hx hb dL_law_459 (by decide) ?_
  refine zi_add (v := nI (i_ + 2)) hx hb dL_law_460 (nI_add _ _) ?_
  refine zi_sld hx hb hX hbl hbA hS (show i_ + 2 < L by omega) (by omega) dL_law_461 ?_
  refine zcWi (As := [.int (xs (i_ + 1)), .int (xs (i_ + 2))]) (rest := []) (wr := [3, 4, 5, 6, 7, 8, 9, 10, 11, 12, 13, 14, 15, 16, 17, 18, 19, 20, 21, 22, 23, 24, 27, 28, 29, 30, 31, 32, 33, 34, 35, 36, 37, 38, 39, 40, 41, 42, 43].filterMap (fun i => (LW ad bd cy m_ s_ pl_ pd_ c_ rn_ z_ (mU m_) pl_ pd_ f_ u_ l_ s_.2 at_ iw_ tl_ is_ o1_ o2_ o3_ cc_ nx_ sb_ lc_)[i]?)) ⟨hx, hb, hml, hown, hts⟩ (c_X7_of l D cy H.size ad m_ pl_ c_ (xs (i_ + 1)) (xs (i_ + 2)) hw) (cwV 2 hts (zG_V zw_438 zw_439 zw_440 zw_2 zw_441) rfl rfl rfl zd_X7_of ⟨(Nat.le_of_ble_eq_true rfl), (Nat.le_of_ble_eq_true rfl)⟩) hK hP hD hS hA [0, 1, 2, 25, 26] [3, 4, 5, 6, 7, 8, 9, 10, 11, 12, 13, 14, 15, 16, 17, 18, 19, 20, 21, 22, 23, 24, 27, 28, 29, 30, 31, 32, 33, 34, 35, 36, 37, 38, 39, 40, 41, 42, 43] [39, 40, 41, 0, 1, 2, 3, 4, 5, 6, 7, 8, 9, 10, 11, 12, 13, 14, 15, 16, 17, 18, 19, 20, 21, 42, 43, 22, 23, 24, 25, 26, 27, 28, 29, 30, 31, 32, 33, 34, 35, 36, 37, 38] rfl (by decide) rfl (by decide) (by decide) (w2 := fun uq_ : (Nat → Nat) => LW ad bd cy m_ s_ pl_ pd_ uq_ rn_ z_ (mU m_) pl_ pd_ f_ u_ l_ s_.2 at_ iw_ tl_ is_ o1_ o2_ o3_ cc_ nx_ sb_ lc_) (fun _ => rfl) (by decide) rfl rfl rfl rfl hl.1 rfl (Nat.le_of_ble_eq_true rfl) dL_law_462 hcs (fun r462 u462 H locs h462 hP hD hS => ?_)
  obtain ⟨d_x, rfl⟩ : ∃ z_, z_ = u462 := ⟨_, rfl⟩
  obtain ⟨hr462, h462⟩ := h462
  have hr462 : r462 = qOf m_ (xs (i_ + 1)) (xs (i_ + 2)) := hr462
  subst hr462
  have hP : va_P D vwCl (LW ad bd cy m_ s_ pl_ pd_ d_x rn_ z_ (mU m_) pl_ pd_ f_ u_ l_ s_.2 at_ iw_ tl_ is_ o1_ o2_ o3_ cc_ nx_ sb_ lc_) H := hP
  have hD : va_D zA (LW ad bd cy m_ s_ pl_ pd_ d_x rn_ z_ (mU m_) pl_ pd_ f_ u_ l_ s_.2 at_ iw_ tl_ is_ o1_ o2_ o3_ cc_ nx_ sb_ lc_) := hD
  refine lv_aload_n hx hb dL_law_465 rfl (lv_at hl 2 rfl) ?_
  refine lv_aload_n hx hb dL_law_466 rfl (lv_at hl 0 rfl) ?_
  refine lv_iload_n hx hb dL_law_467 rfl (lv_at hl 3 rfl) ?_
  refine lv_iconst (v := nI 1) hx hb dL_law_468 (by decide) ?_
  refine zi_add (v := nI (i_ + 1)) hx hb dL_law_469 (nI_add _ _) ?_
  refine zi_sld hx hb hX hbl hbA hS (show i_ + 1 < L by omega) (by omega) dL_law_470 ?_
  refine lv_aload_n hx hb dL_law_471 rfl (lv_at hl 0 rfl) ?_
  refine lv_iload_n hx hb dL_law_472 rfl (lv_at hl 3 rfl) ?_
  refine lv_iconst (v := nI 2) hx hb dL_law_473 (by decide) ?_
  refine zi_add (v := nI (i_ + 2)) hx hb dL_law_474 (nI_add _ _) ?_
  refine zi_sld hx hb hX hbl hbA hS (show i_ + 2 < L by omega) (by omega) dL_law_475 ?_
  refine zcWi (As := [.int (xs (i_ + 1)), .int (xs (i_ + 2))]) (rest := [.int (qOf m_ (xs (i_ + 1)) (xs (i_ + 2)))]) (wr := [0, 1, 2, 3, 4, 5, 6, 7, 8, 9, 10, 11, 12, 13, 14, 15, 16, 17, 18, 19, 20, 21, 22, 23, 24, 25, 26, 27, 28, 31, 32, 33, 34, 35, 36, 40, 41].filterMap (fun i => (LW ad bd cy m_ s_ pl_ pd_ d_x rn_ z_ (mU m_) pl_ pd_ f_ u_ l_ s_.2 at_ iw_ tl_ is_ o1_ o2_ o3_ cc_ nx_ sb_ lc_)[i]?)) ⟨hx, hb, hml, hown, hts⟩ (c_X8_of l D cy H.size bd (mU m_) pl_ at_ iw_ f_ m_ o1_ o2_ o3_ (xs (i_ + 1)) (xs (i_ + 2)) sb_ lc_ hw hM.1) (cwV 2 hts (zG_V zw_490 zw_491 zw_492 zw_5 zw_493) rfl rfl rfl zd_X8_of ⟨(Nat.le_of_ble_eq_true rfl), (Nat.le_of_ble_eq_true rfl)⟩) hK hP hD hS hA [29, 30, 37, 38, 39, 42, 43] [0, 1, 2, 3, 4, 5, 6, 7, 8, 9, 10, 11, 12, 13, 14, 15, 16, 17, 18, 19, 20, 21, 22, 23, 24, 25, 26, 27, 28, 31, 32, 33, 34, 35, 36, 40, 41] [0, 1, 2, 3, 4, 5, 6, 7, 8, 9, 10, 11, 12, 13, 14, 15, 16, 17, 18, 19, 20, 21, 22, 23, 24, 25, 26, 27, 28, 37, 38, 29, 30, 31, 32, 33, 34, 39, 40, 41, 35, 36, 42, 43] rfl (by decide) rfl (by decide) (by decide) (w2 := fun uq_ : (Nat → Nat) × (Nat → Nat) × (Nat → Nat) × (Nat → Bool) × (Nat → Nat) => LW ad bd cy m_ s_ pl_ pd_ d_x rn_ z_ (mU m_) pl_ pd_ f_ u_ l_ s_.2 at_ iw_ tl_ is_ uq_.1 uq_.2.1 uq_.2.2.1 cc_ nx_ uq_.2.2.2.1 uq_.2.2.2.2) (fun _ => rfl) (by decide) rfl rfl rfl rfl hl.1 rfl (Nat.le_of_ble_eq_true rfl) dL_law_476 hcs (fun r476 u476 H locs h476 hP hD hS => ?_)
  obtain ⟨y1_m, y2_m, y3_m, sy_m, ly_m⟩ := u476
  obtain ⟨hr476, h476⟩ := h476
  have hr476 : r476 = qOf m_ (xs (i_ + 1)) (xs (i_ + 2)) := hr476
  subst hr476
  have hP : va_P D vwCl (LW ad bd cy m_ s_ pl_ pd_ d_x rn_ z_ (mU m_) pl_ pd_ f_ u_ l_ s_.2 at_ iw_ tl_ is_ y1_m y2_m y3_m cc_ nx_ sy_m ly_m) H := hP
  have hD : va_D zA (LW ad bd cy m_ s_ pl_ pd_ d_x rn_ z_ (mU m_) pl_ pd_ f_ u_ l_ s_.2 at_ iw_ tl_ is_ y1_m y2_m y3_m cc_ nx_ sy_m ly_m) := hD
  refine lv_icmp_eq (tgt := 897) hx hb dL_law_479 (by decide) (fun _ => ?_) (fun hne_ => absurd rfl hne_)
  exact next _ _ ⟨m_, s_, pl_, pd_, d_x, rn_, z_, f_, u_, l_, at_, iw_, tl_, is_, y1_m, y2_m, y3_m, cc_, nx_, sy_m, ly_m, ⟨hok, hM, hSl, hpdk, (rd_mono hrdk (by omega))⟩, hP, hD, hS⟩ ls hl
set_option maxHeartbeats 4000000 in
set_option maxRecDepth 100000 in
theorem law_image {p : Program} {l : Launch} {e : Env} {s : State} {m : MethodId} {below : List Frame} {meth : Method} {c : Code} {b L : Nat} {xs : Nat → Int32} {D : va_G} {cy : Nat → ClassId} {ad bd : Nat → Nat} {zA : Nat → Prop} {cells slots : Nat} {Q : State → Prop} (hx : p.tables.exec = Jvm.exec) (hb : c.code = cL_law) (hml : c.maxLocals = 4) (hts : ∀ w ∈ w_law, w.before #[Value.ref b] s = true) (hown : s.vm.findClass RL = some m.cls) (hX : va_X b L xs s s.heap) (hbl : b < s.heap.size) (hbA : ¬ zA b) (hK : zK D cy s) (hA : ∀ q : Nat, s.heap.size ≤ q → zA q) (hcs : cells ≤ room_1.cells ∧ slots ≤ room_1.slots) (hL : L ≤ 2048) {i_ : Nat} (hi : i_ + 4 ≤ L) {H : Heap} {locs : List Loc} (inv : LInv D cy zA s.heap ad bd i_ H locs) (next : ∀ (H : Heap) (locs : List Loc), LInv D cy zA s.heap ad bd (i_ + 4) H locs → ∀ ls : Array Slot, lv_has ls 4 [(0, .ref b), (1, .ref (ad 0)), (2, .ref (bd 0)), (3, .int (nI i_))] → W p l e room_1 s m #[Value.ref b] below meth c H locs cells slots Q (F0 m 897 ls [])) : ∀ ls : Array Slot, lv_has ls 4 [(0, .ref b), (1, .ref (ad 0)), (2, .ref (bd 0)), (3, .int (nI i_))] → W p l e room_1 s m #[Value.ref b] below meth c H locs cells slots Q (F0 m 484 ls []) := by
  intro ls hl
  obtain ⟨m_, s_, pl_, pd_, c_, rn_, z_, f_, u_, l_, at_, iw_, tl_, is_, o1_, o2_, o3_, cc_, nx_, sb_, lc_, ⟨hok, hM, hSl, hpdk, hrdk⟩, hP, hD, hS⟩ := inv
  have hw := hok.1
  have hX6 := hok.2.1
  have hU6 := hok.2.2
  have hp := hpdk.1
  have hpd := hpdk.2
  have hrd := hrdk.1
  have hric2 := hrdk.2
  refine lv_aload_n hx hb dL_law_484 rfl (lv_at hl 1 rfl) ?_
  refine lv_aload_n hx hb dL_law_485 rfl (lv_at hl 0 rfl) ?_
  refine lv_iload_n hx hb dL_law_486 rfl (lv_at hl 3 rfl) ?_
  refine lv_iconst (v := nI 1) hx hb dL_law_487 (by decide) ?_
  refine zi_add (v := nI (i_ + 1)) hx hb dL_law_488 (nI_add _ _) ?_
  refine zi_sld hx hb hX hbl hbA hS (show i_ + 1 < L by omega) (by omega) dL_law_489 ?_
  refine lv_aload_n hx hb dL_law_490 rfl (lv_at hl 0 rfl) ?_
  refine lv_iload_n hx hb dL_law_491 rfl (lv_at hl 3 rfl) ?_
  refine lv_iconst (v := nI 2) hx hb dL_law_492 (by decide) ?_
  refine zi_add (v := nI (i_ + 2)) hx hb dL_law_493 (nI_add _ _) ?_
  refine zi_sld hx hb hX hbl hbA hS (show i_ + 2 < L by omega) (by omega) dL_law_494 ?_
  refine lv_aload_n hx hb dL_law_495 rfl (lv_at hl 0 rfl) ?_
  refine lv_iload_n hx hb dL_law_496 rfl (lv_at hl 3 rfl) ?_
  refine lv_iconst (v := nI 3) hx hb dL_law_497 (by decide) ?_
  refine zi_add (v := nI (i_ + 3)) hx hb dL_law_498 (nI_add _ _) ?_
  refine zi_sld hx hb hX hbl hbA hS (show i_ + 3 < L by omega) (by omega) dL_law_499 ?_
  refine zcRi (As := [.int (xs (i_ + 1)), .int (xs (i_ + 2)), .int (xs (i_ + 3))]) (rest := []) ⟨hx, hb, hml, hown, hts⟩ (c_X7_image l D cy ad m_ pl_ (xs (i_ + 1)) (xs (i_ + 2)) (xs (i_ + 3)) hw) (cwV 3 hts (zG_V zw_537 zw_538 zw_539 zw_2 zw_540) rfl rfl rfl zd_X7_image ⟨(Nat.le_of_ble_eq_true rfl), (Nat.le_of_ble_eq_true rfl)⟩) hK hP [0, 1, 2] rfl rfl rfl rfl rfl hl.1 rfl (Nat.le_of_ble_eq_true rfl) dL_law_500 hcs (fun r500 h500 => ?_)
  subst h500
  refine lv_aload_n hx hb dL_law_503 rfl (lv_at hl 2 rfl) ?_
  refine lv_aload_n hx hb dL_law_504 rfl (lv_at hl 0 rfl) ?_
  refine lv_iload_n hx hb dL_law_505 rfl (lv_at hl 3 rfl) ?_
  refine lv_iconst (v := nI 1) hx hb dL_law_506 (by decide) ?_
  refine zi_add (v := nI (i_ + 1)) hx hb dL_law_507 (nI_add _ _) ?_
  refine zi_sld hx hb hX hbl hbA hS (show i_ + 1 < L by omega) (by omega) dL_law_508 ?_
  refine lv_aload_n hx hb dL_law_509 rfl (lv_at hl 0 rfl) ?_
  refine lv_iload_n hx hb dL_law_510 rfl (lv_at hl 3 rfl) ?_
  refine lv_iconst (v := nI 2) hx hb dL_law_511 (by decide) ?_
  refine zi_add (v := nI (i_ + 2)) hx hb dL_law_512 (nI_add _ _) ?_
  refine zi_sld hx hb hX hbl hbA hS (show i_ + 2 < L by omega) (by omega) dL_law_513 ?_
  refine lv_aload_n hx hb dL_law_514 rfl (lv_at hl 0 rfl) ?_
  refine lv_iload_n hx hb dL_law_515 rfl (lv_at hl 3 rfl) ?_
  refine lv_iconst (v := nI 3) hx hb dL_law_516 (by decide) ?_
  refine zi_add (v := nI (i_ + 3)) hx hb dL_law_517 (nI_add _ _) ?_
  refine zi_sld hx hb hX hbl hbA hS (show i_ + 3 < L by omega) (by omega) dL_law_518 ?_
  refine zcWi (As := [.int (xs (i_ + 1)), .int (xs (i_ + 2)), .int (xs (i_ + 3))]) (rest := [.int (qImage m_ (xs (i_ + 1)) (xs (i_ + 2)) (xs (i_ + 3)))]) (wr := [0, 1, 2, 3, 4, 5, 6, 7, 8, 9, 10, 11, 12, 13, 14, 15, 16, 17, 18, 19, 20, 21, 22, 23, 24, 25, 26, 27, 28, 31, 32, 33, 34, 35, 36, 38, 39, 40, 41, 42, 43].filterMap (fun i => (LW ad bd cy m_ s_ pl_ pd_ c_ rn_ z_ (mU m_) pl_ pd_ f_ u_ l_ s_.2 at_ iw_ tl_ is_ o1_ o2_ o3_ cc_ nx_ sb_ lc_)[i]?)) ⟨hx, hb, hml, hown, hts⟩ (c_X8_image l D cy H.size bd (mU m_) pl_ at_ iw_ f_ m_ o1_ (xs (i_ + 1)) (xs (i_ + 2)) (xs (i_ + 3)) hw hM.1) (cwV 3 hts (zG_V zw_542 zw_543 zw_544 zw_5 zw_545) rfl rfl rfl zd_X8_image ⟨(Nat.le_of_ble_eq_true rfl), (Nat.le_of_ble_eq_true rfl)⟩) hK hP hD hS hA [29, 30, 37] [0, 1, 2, 3, 4, 5, 6, 7, 8, 9, 10, 11, 12, 13, 14, 15, 16, 17, 18, 19, 20, 21, 22, 23, 24, 25, 26, 27, 28, 31, 32, 33, 34, 35, 36, 38, 39, 40, 41, 42, 43] [0, 1, 2, 3, 4, 5, 6, 7, 8, 9, 10, 11, 12, 13, 14, 15, 16, 17, 18, 19, 20, 21, 22, 23, 24, 25, 26, 27, 28, 41, 42, 29, 30, 31, 32, 33, 34, 43, 35, 36, 37, 38, 39, 40] rfl (by decide) rfl (by decide) (by decide) (w2 := fun uq_ : (Nat → Nat) => LW ad bd cy m_ s_ pl_ pd_ c_ rn_ z_ (mU m_) pl_ pd_ f_ u_ l_ s_.2 at_ iw_ tl_ is_ uq_ o2_ o3_ cc_ nx_ sb_ lc_) (fun _ => rfl) (by decide) rfl rfl rfl rfl hl.1 rfl (Nat.le_of_ble_eq_true rfl) dL_law_519 hcs (fun r519 u519 H locs h519 hP hD hS => ?_)
  obtain ⟨y1_m, rfl⟩ : ∃ z_, z_ = u519 := ⟨_, rfl⟩
  obtain ⟨hr519, h519⟩ := h519
  have hr519 : r519 = qImage m_ (xs (i_ + 1)) (xs (i_ + 2)) (xs (i_ + 3)) := hr519
  subst hr519
  have hP : va_P D vwCl (LW ad bd cy m_ s_ pl_ pd_ c_ rn_ z_ (mU m_) pl_ pd_ f_ u_ l_ s_.2 at_ iw_ tl_ is_ y1_m o2_ o3_ cc_ nx_ sb_ lc_) H := hP
  have hD : va_D zA (LW ad bd cy m_ s_ pl_ pd_ c_ rn_ z_ (mU m_) pl_ pd_ f_ u_ l_ s_.2 at_ iw_ tl_ is_ y1_m o2_ o3_ cc_ nx_ sb_ lc_) := hD
  refine lv_icmp_eq (tgt := 897) hx hb dL_law_522 (by decide) (fun _ => ?_) (fun hne_ => absurd rfl hne_)
  exact next _ _ ⟨m_, s_, pl_, pd_, c_, rn_, z_, f_, u_, l_, at_, iw_, tl_, is_, y1_m, o2_, o3_, cc_, nx_, sb_, lc_, ⟨hok, hM, hSl, hpdk, (rd_mono hrdk (by omega))⟩, hP, hD, hS⟩ ls hl
set_option maxHeartbeats 4000000 in
set_option maxRecDepth 100000 in
theorem law_commuting {p : Program} {l : Launch} {e : Env} {s : State} {m : MethodId} {below : List Frame} {meth : Method} {c : Code} {b L : Nat} {xs : Nat → Int32} {D : va_G} {cy : Nat → ClassId} {ad bd : Nat → Nat} {zA : Nat → Prop} {cells slots : Nat} {Q : State → Prop} (hx : p.tables.exec = Jvm.exec) (hb : c.code = cL_law) (hml : c.maxLocals = 4) (hts : ∀ w ∈ w_law, w.before #[Value.ref b] s = true) (hown : s.vm.findClass RL = some m.cls) (hX : va_X b L xs s s.heap) (hbl : b < s.heap.size) (hbA : ¬ zA b) (hK : zK D cy s) (hA : ∀ q : Nat, s.heap.size ≤ q → zA q) (hcs : cells ≤ room_1.cells ∧ slots ≤ room_1.slots) (hL : L ≤ 2048) {i_ : Nat} (hi : i_ + 4 ≤ L) {H : Heap} {locs : List Loc} (inv : LInv D cy zA s.heap ad bd i_ H locs) (next : ∀ (H : Heap) (locs : List Loc), LInv D cy zA s.heap ad bd (i_ + 4) H locs → ∀ ls : Array Slot, lv_has ls 4 [(0, .ref b), (1, .ref (ad 0)), (2, .ref (bd 0)), (3, .int (nI i_))] → W p l e room_1 s m #[Value.ref b] below meth c H locs cells slots Q (F0 m 897 ls [])) : ∀ ls : Array Slot, lv_has ls 4 [(0, .ref b), (1, .ref (ad 0)), (2, .ref (bd 0)), (3, .int (nI i_))] → W p l e room_1 s m #[Value.ref b] below meth c H locs cells slots Q (F0 m 527 ls []) := by
  intro ls hl
  obtain ⟨m_, s_, pl_, pd_, c_, rn_, z_, f_, u_, l_, at_, iw_, tl_, is_, o1_, o2_, o3_, cc_, nx_, sb_, lc_, ⟨hok, hM, hSl, hpdk, hrdk⟩, hP, hD, hS⟩ := inv
  have hw := hok.1
  have hX6 := hok.2.1
  have hU6 := hok.2.2
  have hp := hpdk.1
  have hpd := hpdk.2
  have hrd := hrdk.1
  have hric2 := hrdk.2
  refine lv_aload_n hx hb dL_law_527 rfl (lv_at hl 1 rfl) ?_
  refine lv_aload_n hx hb dL_law_528 rfl (lv_at hl 0 rfl) ?_
  refine lv_iload_n hx hb dL_law_529 rfl (lv_at hl 3 rfl) ?_
  refine lv_iconst (v := nI 1) hx hb dL_law_530 (by decide) ?_
  refine zi_add (v := nI (i_ + 1)) hx hb dL_law_531 (nI_add _ _) ?_
  refine zi_sld hx hb hX hbl hbA hS (show i_ + 1 < L by omega) (by omega) dL_law_532 ?_
  refine zcWl (As := [.int (xs (i_ + 1))]) (rest := []) (wr := [3, 4, 5, 6, 7, 8, 9, 10, 11, 12, 13, 14, 15, 16, 17, 18, 19, 20, 21, 22, 23, 24, 27, 28, 29, 30, 31, 32, 33, 34, 35, 36, 37, 38, 39, 40, 41, 42, 43].filterMap (fun i => (LW ad bd cy m_ s_ pl_ pd_ c_ rn_ z_ (mU m_) pl_ pd_ f_ u_ l_ s_.2 at_ iw_ tl_ is_ o1_ o2_ o3_ cc_ nx_ sb_ lc_)[i]?)) ⟨hx, hb, hml, hown, hts⟩ (c_X7_commuting l D cy H.size ad m_ pl_ c_ (xs (i_ + 1)) hw) (cwV 1 hts (zG_V zw_546 zw_547 zw_548 zw_2 zw_549) rfl rfl rfl zd_X7_commuting ⟨(Nat.le_of_ble_eq_true rfl), (Nat.le_of_ble_eq_true rfl)⟩) hK hP hD hS hA [0, 1, 2, 25, 26] [3, 4, 5, 6, 7, 8, 9, 10, 11, 12, 13, 14, 15, 16, 17, 18, 19, 20, 21, 22, 23, 24, 27, 28, 29, 30, 31, 32, 33, 34, 35, 36, 37, 38, 39, 40, 41, 42, 43] [39, 40, 41, 0, 1, 2, 3, 4, 5, 6, 7, 8, 9, 10, 11, 12, 13, 14, 15, 16, 17, 18, 19, 20, 21, 42, 43, 22, 23, 24, 25, 26, 27, 28, 29, 30, 31, 32, 33, 34, 35, 36, 37, 38] rfl (by decide) rfl (by decide) (by decide) (w2 := fun uq_ : (Nat → Nat) => LW ad bd cy m_ s_ pl_ pd_ uq_ rn_ z_ (mU m_) pl_ pd_ f_ u_ l_ s_.2 at_ iw_ tl_ is_ o1_ o2_ o3_ cc_ nx_ sb_ lc_) (fun _ => rfl) (by decide) rfl rfl rfl rfl hl.1 rfl (Nat.le_of_ble_eq_true rfl) dL_law_533 hcs (fun r533 u533 H locs h533 hP hD hS => ?_)
  obtain ⟨d_x, rfl⟩ : ∃ z_, z_ = u533 := ⟨_, rfl⟩
  obtain ⟨hr533, h533⟩ := h533
  have hr533 : r533 = qCommuting m_ (xs (i_ + 1)) := hr533
  subst hr533
  have hP : va_P D vwCl (LW ad bd cy m_ s_ pl_ pd_ d_x rn_ z_ (mU m_) pl_ pd_ f_ u_ l_ s_.2 at_ iw_ tl_ is_ o1_ o2_ o3_ cc_ nx_ sb_ lc_) H := hP
  have hD : va_D zA (LW ad bd cy m_ s_ pl_ pd_ d_x rn_ z_ (mU m_) pl_ pd_ f_ u_ l_ s_.2 at_ iw_ tl_ is_ o1_ o2_ o3_ cc_ nx_ sb_ lc_) := hD
  refine lv_aload_n hx hb dL_law_536 rfl (lv_at hl 2 rfl) ?_
  refine lv_aload_n hx hb dL_law_537 rfl (lv_at hl 0 rfl) ?_
  refine lv_iload_n hx hb dL_law_538 rfl (lv_at hl 3 rfl) ?_
  refine lv_iconst (v := nI 1) hx hb dL_law_539 (by decide) ?_
  refine zi_add (v := nI (i_ + 1)) hx hb dL_law_540 (nI_add _ _) ?_
  refine zi_sld hx hb hX hbl hbA hS (show i_ + 1 < L by omega) (by omega) dL_law_541 ?_
  refine zcWl (As := [.int (xs (i_ + 1))]) (rest := [.long (qCommuting m_ (xs (i_ + 1)))]) (wr := [0, 1, 2, 3, 4, 5, 6, 7, 8, 9, 10, 11, 12, 13, 14, 15, 16, 17, 18, 19, 20, 21, 22, 23, 24, 25, 26, 27, 28, 31, 32, 33, 34, 35, 36, 38, 39, 40, 41].filterMap (fun i => (LW ad bd cy m_ s_ pl_ pd_ d_x rn_ z_ (mU m_) pl_ pd_ f_ u_ l_ s_.2 at_ iw_ tl_ is_ o1_ o2_ o3_ cc_ nx_ sb_ lc_)[i]?)) ⟨hx, hb, hml, hown, hts⟩ (c_X8_commuting l D cy H.size bd (mU m_) pl_ at_ iw_ f_ m_ o1_ (xs (i_ + 1)) sb_ lc_ hw hM.1) (cwV 1 hts (zG_V zw_555 zw_556 zw_557 zw_5 zw_558) rfl rfl rfl zd_X8_commuting ⟨(Nat.le_of_ble_eq_true rfl), (Nat.le_of_ble_eq_true rfl)⟩) hK hP hD hS hA [29, 30, 37, 42, 43] [0, 1, 2, 3, 4, 5, 6, 7, 8, 9, 10, 11, 12, 13, 14, 15, 16, 17, 18, 19, 20, 21, 22, 23, 24, 25, 26, 27, 28, 31, 32, 33, 34, 35, 36, 38, 39, 40, 41] [0, 1, 2, 3, 4, 5, 6, 7, 8, 9, 10, 11, 12, 13, 14, 15, 16, 17, 18, 19, 20, 21, 22, 23, 24, 25, 26, 27, 28, 39, 40, 29, 30, 31, 32, 33, 34, 41, 35, 36, 37, 38, 42, 43] rfl (by decide) rfl (by decide) (by decide) (w2 := fun uq_ : (Nat → Nat) × (Nat → Bool) × (Nat → Nat) => LW ad bd cy m_ s_ pl_ pd_ d_x rn_ z_ (mU m_) pl_ pd_ f_ u_ l_ s_.2 at_ iw_ tl_ is_ uq_.1 o2_ o3_ cc_ nx_ uq_.2.1 uq_.2.2) (fun _ => rfl) (by decide) rfl rfl rfl rfl hl.1 rfl (Nat.le_of_ble_eq_true rfl) dL_law_542 hcs (fun r542 u542 H locs h542 hP hD hS => ?_)
  obtain ⟨y1_m, sy_m, ly_m⟩ := u542
  obtain ⟨hr542, h542⟩ := h542
  have hr542 : r542 = qCommuting m_ (xs (i_ + 1)) := hr542
  subst hr542
  have hP : va_P D vwCl (LW ad bd cy m_ s_ pl_ pd_ d_x rn_ z_ (mU m_) pl_ pd_ f_ u_ l_ s_.2 at_ iw_ tl_ is_ y1_m o2_ o3_ cc_ nx_ sy_m ly_m) H := hP
  have hD : va_D zA (LW ad bd cy m_ s_ pl_ pd_ d_x rn_ z_ (mU m_) pl_ pd_ f_ u_ l_ s_.2 at_ iw_ tl_ is_ y1_m o2_ o3_ cc_ nx_ sy_m ly_m) := hD
  refine W.lcmp hx hb dL_law_545 ?_
  refine zc_eq (tgt := 897) hx hb dL_law_546 (by decide) (fun _ => ?_) (fun hne_ => absurd rfl hne_)
  exact next _ _ ⟨m_, s_, pl_, pd_, d_x, rn_, z_, f_, u_, l_, at_, iw_, tl_, is_, y1_m, o2_, o3_, cc_, nx_, sy_m, ly_m, ⟨hok, hM, hSl, hpdk, (rd_mono hrdk (by omega))⟩, hP, hD, hS⟩ ls hl

set_option maxHeartbeats 4000000 in
set_option maxRecDepth 100000 in
theorem law_commute {p : Program} {l : Launch} {e : Env} {s : State} {m : MethodId} {below : List Frame} {meth : Method} {c : Code} {b L : Nat} {xs : Nat → Int32} {D : va_G} {cy : Nat → ClassId} {ad bd : Nat → Nat} {zA : Nat → Prop} {cells slots : Nat} {Q : State → Prop} (hx : p.tables.exec = Jvm.exec) (hb : c.code = cL_law) (hml : c.maxLocals = 4) (hts : ∀ w ∈ w_law, w.before #[Value.ref b] s = true) (hown : s.vm.findClass RL = some m.cls) (hX : va_X b L xs s s.heap) (hbl : b < s.heap.size) (hbA : ¬ zA b) (hK : zK D cy s) (hA : ∀ q : Nat, s.heap.size ≤ q → zA q) (hcs : cells ≤ room_1.cells ∧ slots ≤ room_1.slots) (hL : L ≤ 2048) {i_ : Nat} (hi : i_ + 4 ≤ L) {H : Heap} {locs : List Loc} (inv : LInv D cy zA s.heap ad bd i_ H locs) (next : ∀ (H : Heap) (locs : List Loc), LInv D cy zA s.heap ad bd (i_ + 4) H locs → ∀ ls : Array Slot, lv_has ls 4 [(0, .ref b), (1, .ref (ad 0)), (2, .ref (bd 0)), (3, .int (nI i_))] → W p l e room_1 s m #[Value.ref b] below meth c H locs cells slots Q (F0 m 897 ls [])) : ∀ ls : Array Slot, lv_has ls 4 [(0, .ref b), (1, .ref (ad 0)), (2, .ref (bd 0)), (3, .int (nI i_))] → W p l e room_1 s m #[Value.ref b] below meth c H locs cells slots Q (F0 m 551 ls []) := by
  intro ls hl
  obtain ⟨m_, s_, pl_, pd_, c_, rn_, z_, f_, u_, l_, at_, iw_, tl_, is_, o1_, o2_, o3_, cc_, nx_, sb_, lc_, ⟨hok, hM, hSl, hpdk, hrdk⟩, hP, hD, hS⟩ := inv
  have hw := hok.1
  have hX6 := hok.2.1
  have hU6 := hok.2.2
  have hp := hpdk.1
  have hpd := hpdk.2
  have hrd := hrdk.1
  have hric2 := hrdk.2
  refine lv_aload_n hx hb dL_law_551 rfl (lv_at hl 1 rfl) ?_
  refine lv_aload_n hx hb dL_law_552 rfl (lv_at hl 0 rfl) ?_
  refine lv_iload_n hx hb dL_law_553 rfl (lv_at hl 3 rfl) ?_
  refine lv_iconst (v := nI 1) hx hb dL_law_554 (by decide) ?_
  refine zi_add (v := nI (i_ + 1)) hx hb dL_law_555 (nI_add _ _) ?_
  refine zi_sld hx hb hX hbl hbA hS (show i_ + 1 < L by omega) (by omega) dL_law_556 ?_
  refine lv_aload_n hx hb dL_law_557 rfl (lv_at hl 0 rfl) ?_
  refine lv_iload_n hx hb dL_law_558 rfl (lv_at hl 3 rfl) ?_
  refine lv_iconst (v := nI 2) hx hb dL_law_559 (by decide) ?_
  refine zi_add (v := nI (i_ + 2)) hx hb dL_law_560 (nI_add _ _) ?_
  refine zi_sld hx hb hX hbl hbA hS (show i_ + 2 < L by omega) (by omega) dL_law_561 ?_
  refine zcRi (As := [.int (xs (i_ + 1)), .int (xs (i_ + 2))]) (rest := []) ⟨hx, hb, hml, hown, hts⟩ (c_X7_commute l D cy ad m_ pl_ (xs (i_ + 1)) (xs (i_ + 2)) hw) (cwV 2 hts (zG_V zw_560 zw_561 zw_562 zw_2 zw_563) rfl rfl rfl zd_X7_commute ⟨(Nat.le_of_ble_eq_true rfl), (Nat.le_of_ble_eq_true rfl)⟩) hK hP [0, 1, 2] rfl rfl rfl rfl rfl hl.1 rfl (Nat.le_of_ble_eq_true rfl) dL_law_562 hcs (fun r562 h562 => ?_)
  subst h562
  refine lv_aload_n hx hb dL_law_565 rfl (lv_at hl 2 rfl) ?_
  refine lv_aload_n hx hb dL_law_566 rfl (lv_at hl 0 rfl) ?_
  refine lv_iload_n hx hb dL_law_567 rfl (lv_at hl 3 rfl) ?_
  refine lv_iconst (v := nI 1) hx hb dL_law_568 (by decide) ?_
  refine zi_add (v := nI (i_ + 1)) hx hb dL_law_569 (nI_add _ _) ?_
  refine zi_sld hx hb hX hbl hbA hS (show i_ + 1 < L by omega) (by omega) dL_law_570 ?_
  refine lv_aload_n hx hb dL_law_571 rfl (lv_at hl 0 rfl) ?_
  refine lv_iload_n hx hb dL_law_572 rfl (lv_at hl 3 rfl) ?_
  refine lv_iconst (v := nI 2) hx hb dL_law_573 (by decide) ?_
  refine zi_add (v := nI (i_ + 2)) hx hb dL_law_574 (nI_add _ _) ?_
  refine zi_sld hx hb hX hbl hbA hS (show i_ + 2 < L by omega) (by omega) dL_law_575 ?_
  refine zcWi (As := [.int (xs (i_ + 1)), .int (xs (i_ + 2))]) (rest := [.int (qCommute m_ (xs (i_ + 1)) (xs (i_ + 2)))]) (wr := [0, 1, 2, 3, 4, 5, 6, 7, 8, 9, 10, 11, 12, 13, 14, 15, 16, 17, 18, 19, 20, 21, 22, 23, 24, 25, 26, 27, 28, 31, 32, 33, 34, 35, 36, 39, 40, 41, 42, 43].filterMap (fun i => (LW ad bd cy m_ s_ pl_ pd_ c_ rn_ z_ (mU m_) pl_ pd_ f_ u_ l_ s_.2 at_ iw_ tl_ is_ o1_ o2_ o3_ cc_ nx_ sb_ lc_)[i]?)) ⟨hx, hb, hml, hown, hts⟩ (c_X8_commute l D cy H.size bd (mU m_) pl_ at_ iw_ f_ m_ o1_ o2_ (xs (i_ + 1)) (xs (i_ + 2)) hw hM.1) (cwV 2 hts (zG_V zw_564 zw_565 zw_566 zw_5 zw_567) rfl rfl rfl zd_X8_commute ⟨(Nat.le_of_ble_eq_true rfl), (Nat.le_of_ble_eq_true rfl)⟩) hK hP hD hS hA [29, 30, 37, 38] [0, 1, 2, 3, 4, 5, 6, 7, 8, 9, 10, 11, 12, 13, 14, 15, 16, 17, 18, 19, 20, 21, 22, 23, 24, 25, 26, 27, 28, 31, 32, 33, 34, 35, 36, 39, 40, 41, 42, 43] [0, 1, 2, 3, 4, 5, 6, 7, 8, 9, 10, 11, 12, 13, 14, 15, 16, 17, 18, 19, 20, 21, 22, 23, 24, 25, 26, 27, 28, 40, 41, 29, 30, 31, 32, 33, 34, 42, 43, 35, 36, 37, 38, 39] rfl (by decide) rfl (by decide) (by decide) (w2 := fun uq_ : (Nat → Nat) × (Nat → Nat) => LW ad bd cy m_ s_ pl_ pd_ c_ rn_ z_ (mU m_) pl_ pd_ f_ u_ l_ s_.2 at_ iw_ tl_ is_ uq_.1 uq_.2 o3_ cc_ nx_ sb_ lc_) (fun _ => rfl) (by decide) rfl rfl rfl rfl hl.1 rfl (Nat.le_of_ble_eq_true rfl) dL_law_576 hcs (fun r576 u576 H locs h576 hP hD hS => ?_)
  obtain ⟨y1_m, y2_m⟩ := u576
  obtain ⟨hr576, h576⟩ := h576
  have hr576 : r576 = qCommute m_ (xs (i_ + 1)) (xs (i_ + 2)) := hr576
  subst hr576
  have hP : va_P D vwCl (LW ad bd cy m_ s_ pl_ pd_ c_ rn_ z_ (mU m_) pl_ pd_ f_ u_ l_ s_.2 at_ iw_ tl_ is_ y1_m y2_m o3_ cc_ nx_ sb_ lc_) H := hP
  have hD : va_D zA (LW ad bd cy m_ s_ pl_ pd_ c_ rn_ z_ (mU m_) pl_ pd_ f_ u_ l_ s_.2 at_ iw_ tl_ is_ y1_m y2_m o3_ cc_ nx_ sb_ lc_) := hD
  refine lv_icmp_eq (tgt := 897) hx hb dL_law_579 (by decide) (fun _ => ?_) (fun hne_ => absurd rfl hne_)
  exact next _ _ ⟨m_, s_, pl_, pd_, c_, rn_, z_, f_, u_, l_, at_, iw_, tl_, is_, y1_m, y2_m, o3_, cc_, nx_, sb_, lc_, ⟨hok, hM, hSl, hpdk, (rd_mono hrdk (by omega))⟩, hP, hD, hS⟩ ls hl
set_option maxHeartbeats 4000000 in
set_option maxRecDepth 100000 in
theorem law_count {p : Program} {l : Launch} {e : Env} {s : State} {m : MethodId} {below : List Frame} {meth : Method} {c : Code} {b L : Nat} {xs : Nat → Int32} {D : va_G} {cy : Nat → ClassId} {ad bd : Nat → Nat} {zA : Nat → Prop} {cells slots : Nat} {Q : State → Prop} (hx : p.tables.exec = Jvm.exec) (hb : c.code = cL_law) (hml : c.maxLocals = 4) (hts : ∀ w ∈ w_law, w.before #[Value.ref b] s = true) (hown : s.vm.findClass RL = some m.cls) (hX : va_X b L xs s s.heap) (hbl : b < s.heap.size) (hbA : ¬ zA b) (hK : zK D cy s) (hA : ∀ q : Nat, s.heap.size ≤ q → zA q) (hcs : cells ≤ room_1.cells ∧ slots ≤ room_1.slots) (hL : L ≤ 2048) {i_ : Nat} (hi : i_ + 4 ≤ L) {H : Heap} {locs : List Loc} (inv : LInv D cy zA s.heap ad bd i_ H locs) (next : ∀ (H : Heap) (locs : List Loc), LInv D cy zA s.heap ad bd (i_ + 4) H locs → ∀ ls : Array Slot, lv_has ls 4 [(0, .ref b), (1, .ref (ad 0)), (2, .ref (bd 0)), (3, .int (nI i_))] → W p l e room_1 s m #[Value.ref b] below meth c H locs cells slots Q (F0 m 897 ls [])) : ∀ ls : Array Slot, lv_has ls 4 [(0, .ref b), (1, .ref (ad 0)), (2, .ref (bd 0)), (3, .int (nI i_))] → W p l e room_1 s m #[Value.ref b] below meth c H locs cells slots Q (F0 m 584 ls []) := by
  intro ls hl
  obtain ⟨m_, s_, pl_, pd_, c_, rn_, z_, f_, u_, l_, at_, iw_, tl_, is_, o1_, o2_, o3_, cc_, nx_, sb_, lc_, ⟨hok, hM, hSl, hpdk, hrdk⟩, hP, hD, hS⟩ := inv
  have hw := hok.1
  have hX6 := hok.2.1
  have hU6 := hok.2.2
  have hp := hpdk.1
  have hpd := hpdk.2
  have hrd := hrdk.1
  have hric2 := hrdk.2
  refine lv_aload_n hx hb dL_law_584 rfl (lv_at hl 1 rfl) ?_
  refine lv_aload_n hx hb dL_law_585 rfl (lv_at hl 0 rfl) ?_
  refine lv_iload_n hx hb dL_law_586 rfl (lv_at hl 3 rfl) ?_
  refine lv_iconst (v := nI 1) hx hb dL_law_587 (by decide) ?_
  refine zi_add (v := nI (i_ + 1)) hx hb dL_law_588 (nI_add _ _) ?_
  refine zi_sld hx hb hX hbl hbA hS (show i_ + 1 < L by omega) (by omega) dL_law_589 ?_
  refine zcRi (As := [.int (xs (i_ + 1))]) (rest := []) ⟨hx, hb, hml, hown, hts⟩ (c_X7_count l D cy ad m_ pl_ (xs (i_ + 1)) hw) (cwV 1 hts (zG_V zw_568 zw_569 zw_570 zw_2 zw_571) rfl rfl rfl zd_X7_count ⟨(Nat.le_of_ble_eq_true rfl), (Nat.le_of_ble_eq_true rfl)⟩) hK hP [0, 1] rfl rfl rfl rfl rfl hl.1 rfl (Nat.le_of_ble_eq_true rfl) dL_law_590 hcs (fun r590 h590 => ?_)
  subst h590
  refine lv_aload_n hx hb dL_law_593 rfl (lv_at hl 2 rfl) ?_
  refine lv_aload_n hx hb dL_law_594 rfl (lv_at hl 0 rfl) ?_
  refine lv_iload_n hx hb dL_law_595 rfl (lv_at hl 3 rfl) ?_
  refine lv_iconst (v := nI 1) hx hb dL_law_596 (by decide) ?_
  refine zi_add (v := nI (i_ + 1)) hx hb dL_law_597 (nI_add _ _) ?_
  refine zi_sld hx hb hX hbl hbA hS (show i_ + 1 < L by omega) (by omega) dL_law_598 ?_
  refine zcWi (As := [.int (xs (i_ + 1))]) (rest := [.int (qCount m_ pl_ (xs (i_ + 1)))]) (wr := [0, 1, 2, 3, 4, 5, 6, 7, 8, 9, 10, 11, 12, 13, 14, 15, 16, 17, 18, 19, 20, 21, 22, 23, 24, 25, 26, 27, 28, 31, 32, 33, 34, 35, 36, 37, 38, 39, 40, 41, 42, 43].filterMap (fun i => (LW ad bd cy m_ s_ pl_ pd_ c_ rn_ z_ (mU m_) pl_ pd_ f_ u_ l_ s_.2 at_ iw_ tl_ is_ o1_ o2_ o3_ cc_ nx_ sb_ lc_)[i]?)) ⟨hx, hb, hml, hown, hts⟩ (c_X8_count l D cy H.size bd pl_ at_ iw_ f_ m_ (xs (i_ + 1)) hw hM.1) (cwV 1 hts (zG_V zw_572 zw_573 zw_574 zw_5 zw_575) rfl rfl rfl zd_X8_count ⟨(Nat.le_of_ble_eq_true rfl), (Nat.le_of_ble_eq_true rfl)⟩) hK hP hD hS hA [29, 30] [0, 1, 2, 3, 4, 5, 6, 7, 8, 9, 10, 11, 12, 13, 14, 15, 16, 17, 18, 19, 20, 21, 22, 23, 24, 25, 26, 27, 28, 31, 32, 33, 34, 35, 36, 37, 38, 39, 40, 41, 42, 43] [0, 1, 2, 3, 4, 5, 6, 7, 8, 9, 10, 11, 12, 13, 14, 15, 16, 17, 18, 19, 20, 21, 22, 23, 24, 25, 26, 27, 28, 42, 43, 29, 30, 31, 32, 33, 34, 35, 36, 37, 38, 39, 40, 41] rfl (by decide) rfl (by decide) (by decide) (w2 := fun uq_ : Unit => LW ad bd cy m_ s_ pl_ pd_ c_ rn_ z_ (mU m_) pl_ pd_ f_ u_ l_ s_.2 at_ iw_ tl_ is_ o1_ o2_ o3_ cc_ nx_ sb_ lc_) (fun _ => rfl) (by decide) rfl rfl rfl rfl hl.1 rfl (Nat.le_of_ble_eq_true rfl) dL_law_599 hcs (fun r599 u599 H locs h599 hP hD hS => ?_)
  obtain ⟨hr599, h599⟩ := h599
  have hr599 : r599 = qCount m_ pl_ (xs (i_ + 1)) := hr599
  subst hr599
  have hP : va_P D vwCl (LW ad bd cy m_ s_ pl_ pd_ c_ rn_ z_ (mU m_) pl_ pd_ f_ u_ l_ s_.2 at_ iw_ tl_ is_ o1_ o2_ o3_ cc_ nx_ sb_ lc_) H := hP
  have hD : va_D zA (LW ad bd cy m_ s_ pl_ pd_ c_ rn_ z_ (mU m_) pl_ pd_ f_ u_ l_ s_.2 at_ iw_ tl_ is_ o1_ o2_ o3_ cc_ nx_ sb_ lc_) := hD
  refine lv_icmp_eq (tgt := 897) hx hb dL_law_602 (by decide) (fun _ => ?_) (fun hne_ => absurd rfl hne_)
  exact next _ _ ⟨m_, s_, pl_, pd_, c_, rn_, z_, f_, u_, l_, at_, iw_, tl_, is_, o1_, o2_, o3_, cc_, nx_, sb_, lc_, ⟨hok, hM, hSl, hpdk, (rd_mono hrdk (by omega))⟩, hP, hD, hS⟩ ls hl
set_option maxHeartbeats 4000000 in
set_option maxRecDepth 100000 in
theorem law_spread {p : Program} {l : Launch} {e : Env} {s : State} {m : MethodId} {below : List Frame} {meth : Method} {c : Code} {b L : Nat} {xs : Nat → Int32} {D : va_G} {cy : Nat → ClassId} {ad bd : Nat → Nat} {zA : Nat → Prop} {cells slots : Nat} {Q : State → Prop} (hx : p.tables.exec = Jvm.exec) (hb : c.code = cL_law) (hml : c.maxLocals = 4) (hts : ∀ w ∈ w_law, w.before #[Value.ref b] s = true) (hown : s.vm.findClass RL = some m.cls) (hX : va_X b L xs s s.heap) (hbl : b < s.heap.size) (hbA : ¬ zA b) (hK : zK D cy s) (hA : ∀ q : Nat, s.heap.size ≤ q → zA q) (hcs : cells ≤ room_1.cells ∧ slots ≤ room_1.slots) (hL : L ≤ 2048) {i_ : Nat} (hi : i_ + 4 ≤ L) {H : Heap} {locs : List Loc} (inv : LInv D cy zA s.heap ad bd i_ H locs) (next : ∀ (H : Heap) (locs : List Loc), LInv D cy zA s.heap ad bd (i_ + 4) H locs → ∀ ls : Array Slot, lv_has ls 4 [(0, .ref b), (1, .ref (ad 0)), (2, .ref (bd 0)), (3, .int (nI i_))] → W p l e room_1 s m #[Value.ref b] below meth c H locs cells slots Q (F0 m 897 ls [])) : ∀ ls : Array Slot, lv_has ls 4 [(0, .ref b), (1, .ref (ad 0)), (2, .ref (bd 0)), (3, .int (nI i_))] → W p l e room_1 s m #[Value.ref b] below meth c H locs cells slots Q (F0 m 607 ls []) := by
  intro ls hl
  obtain ⟨m_, s_, pl_, pd_, c_, rn_, z_, f_, u_, l_, at_, iw_, tl_, is_, o1_, o2_, o3_, cc_, nx_, sb_, lc_, ⟨hok, hM, hSl, hpdk, hrdk⟩, hP, hD, hS⟩ := inv
  have hw := hok.1
  have hX6 := hok.2.1
  have hU6 := hok.2.2
  have hp := hpdk.1
  have hpd := hpdk.2
  have hrd := hrdk.1
  have hric2 := hrdk.2
  refine lv_aload_n hx hb dL_law_607 rfl (lv_at hl 1 rfl) ?_
  refine zcRl (As := []) (rest := []) ⟨hx, hb, hml, hown, hts⟩ (c_X7_spread l D cy ad m_ pl_ hw) (cwV 0 hts (zG_V zw_584 zw_585 zw_586 zw_2 zw_587) rfl rfl rfl zd_X7_spread ⟨(Nat.le_of_ble_eq_true rfl), (Nat.le_of_ble_eq_true rfl)⟩) hK hP [0, 1] rfl rfl rfl rfl rfl hl.1 rfl (Nat.le_of_ble_eq_true rfl) dL_law_608 hcs (fun r608 h608 => ?_)
  subst h608
  refine lv_aload_n hx hb dL_law_611 rfl (lv_at hl 2 rfl) ?_
  refine zcWl (As := []) (rest := [.long (qSpread m_)]) (wr := [0, 1, 2, 3, 4, 5, 6, 7, 8, 9, 10, 11, 12, 13, 14, 15, 16, 17, 18, 19, 20, 21, 22, 23, 24, 25, 26, 27, 28, 31, 32, 33, 34, 35, 36, 37, 38, 39, 40, 41, 42, 43].filterMap (fun i => (LW ad bd cy m_ s_ pl_ pd_ c_ rn_ z_ (mU m_) pl_ pd_ f_ u_ l_ s_.2 at_ iw_ tl_ is_ o1_ o2_ o3_ cc_ nx_ sb_ lc_)[i]?)) ⟨hx, hb, hml, hown, hts⟩ (c_X8_spread l D cy H.size bd (mU m_) pl_ at_ iw_ f_ m_ hw hM.1) (cwV 0 hts (zG_V zw_594 zw_595 zw_596 zw_5 zw_597) rfl rfl rfl zd_X8_spread ⟨(Nat.le_of_ble_eq_true rfl), (Nat.le_of_ble_eq_true rfl)⟩) hK hP hD hS hA [29, 30] [0, 1, 2, 3, 4, 5, 6, 7, 8, 9, 10, 11, 12, 13, 14, 15, 16, 17, 18, 19, 20, 21, 22, 23, 24, 25, 26, 27, 28, 31, 32, 33, 34, 35, 36, 37, 38, 39, 40, 41, 42, 43] [0, 1, 2, 3, 4, 5, 6, 7, 8, 9, 10, 11, 12, 13, 14, 15, 16, 17, 18, 19, 20, 21, 22, 23, 24, 25, 26, 27, 28, 42, 43, 29, 30, 31, 32, 33, 34, 35, 36, 37, 38, 39, 40, 41] rfl (by decide) rfl (by decide) (by decide) (w2 := fun uq_ : Unit => LW ad bd cy m_ s_ pl_ pd_ c_ rn_ z_ (mU m_) pl_ pd_ f_ u_ l_ s_.2 at_ iw_ tl_ is_ o1_ o2_ o3_ cc_ nx_ sb_ lc_) (fun _ => rfl) (by decide) rfl rfl rfl rfl hl.1 rfl (Nat.le_of_ble_eq_true rfl) dL_law_612 hcs (fun r612 u612 H locs h612 hP hD hS => ?_)
  obtain ⟨hr612, h612⟩ := h612
  have hr612 : r612 = qSpread m_ := hr612
  subst hr612
  have hP : va_P D vwCl (LW ad bd cy m_ s_ pl_ pd_ c_ rn_ z_ (mU m_) pl_ pd_ f_ u_ l_ s_.2 at_ iw_ tl_ is_ o1_ o2_ o3_ cc_ nx_ sb_ lc_) H := hP
  have hD : va_D zA (LW ad bd cy m_ s_ pl_ pd_ c_ rn_ z_ (mU m_) pl_ pd_ f_ u_ l_ s_.2 at_ iw_ tl_ is_ o1_ o2_ o3_ cc_ nx_ sb_ lc_) := hD
  refine W.lcmp hx hb dL_law_615 ?_
  refine zc_eq (tgt := 897) hx hb dL_law_616 (by decide) (fun _ => ?_) (fun hne_ => absurd rfl hne_)
  exact next _ _ ⟨m_, s_, pl_, pd_, c_, rn_, z_, f_, u_, l_, at_, iw_, tl_, is_, o1_, o2_, o3_, cc_, nx_, sb_, lc_, ⟨hok, hM, hSl, hpdk, (rd_mono hrdk (by omega))⟩, hP, hD, hS⟩ ls hl
set_option maxHeartbeats 4000000 in
set_option maxRecDepth 100000 in
theorem law_share {p : Program} {l : Launch} {e : Env} {s : State} {m : MethodId} {below : List Frame} {meth : Method} {c : Code} {b L : Nat} {xs : Nat → Int32} {D : va_G} {cy : Nat → ClassId} {ad bd : Nat → Nat} {zA : Nat → Prop} {cells slots : Nat} {Q : State → Prop} (hx : p.tables.exec = Jvm.exec) (hb : c.code = cL_law) (hml : c.maxLocals = 4) (hts : ∀ w ∈ w_law, w.before #[Value.ref b] s = true) (hown : s.vm.findClass RL = some m.cls) (hX : va_X b L xs s s.heap) (hbl : b < s.heap.size) (hbA : ¬ zA b) (hK : zK D cy s) (hA : ∀ q : Nat, s.heap.size ≤ q → zA q) (hcs : cells ≤ room_1.cells ∧ slots ≤ room_1.slots) (hL : L ≤ 2048) {i_ : Nat} (hi : i_ + 4 ≤ L) {H : Heap} {locs : List Loc} (inv : LInv D cy zA s.heap ad bd i_ H locs) (next : ∀ (H : Heap) (locs : List Loc), LInv D cy zA s.heap ad bd (i_ + 4) H locs → ∀ ls : Array Slot, lv_has ls 4 [(0, .ref b), (1, .ref (ad 0)), (2, .ref (bd 0)), (3, .int (nI i_))] → W p l e room_1 s m #[Value.ref b] below meth c H locs cells slots Q (F0 m 897 ls [])) : ∀ ls : Array Slot, lv_has ls 4 [(0, .ref b), (1, .ref (ad 0)), (2, .ref (bd 0)), (3, .int (nI i_))] → W p l e room_1 s m #[Value.ref b] below meth c H locs cells slots Q (F0 m 621 ls []) := by
  intro ls hl
  obtain ⟨m_, s_, pl_, pd_, c_, rn_, z_, f_, u_, l_, at_, iw_, tl_, is_, o1_, o2_, o3_, cc_, nx_, sb_, lc_, ⟨hok, hM, hSl, hpdk, hrdk⟩, hP, hD, hS⟩ := inv
  have hw := hok.1
  have hX6 := hok.2.1
  have hU6 := hok.2.2
  have hp := hpdk.1
  have hpd := hpdk.2
  have hrd := hrdk.1
  have hric2 := hrdk.2
  refine lv_aload_n hx hb dL_law_621 rfl (lv_at hl 1 rfl) ?_
  refine zcRi (As := []) (rest := []) ⟨hx, hb, hml, hown, hts⟩ (c_X7_share l D cy ad m_ pl_ hw) (cwV 0 hts (zG_V zw_609 zw_610 zw_611 zw_2 zw_612) rfl rfl rfl zd_X7_share ⟨(Nat.le_of_ble_eq_true rfl), (Nat.le_of_ble_eq_true rfl)⟩) hK hP [0, 1] rfl rfl rfl rfl rfl hl.1 rfl (Nat.le_of_ble_eq_true rfl) dL_law_622 hcs (fun r622 h622 => ?_)
  subst h622
  refine lv_aload_n hx hb dL_law_625 rfl (lv_at hl 2 rfl) ?_
  refine zcWi (As := []) (rest := [.int (qShare m_)]) (wr := [0, 1, 2, 3, 4, 5, 6, 7, 8, 9, 10, 11, 12, 13, 14, 15, 16, 17, 18, 19, 20, 21, 22, 23, 24, 25, 26, 27, 28, 31, 32, 33, 34, 35, 36, 37, 38, 39, 40, 41, 42, 43].filterMap (fun i => (LW ad bd cy m_ s_ pl_ pd_ c_ rn_ z_ (mU m_) pl_ pd_ f_ u_ l_ s_.2 at_ iw_ tl_ is_ o1_ o2_ o3_ cc_ nx_ sb_ lc_)[i]?)) ⟨hx, hb, hml, hown, hts⟩ (c_X8_share l D cy H.size bd (mU m_) pl_ at_ iw_ f_ m_ hw hM.1) (cwV 0 hts (zG_V zw_617 zw_618 zw_619 zw_5 zw_620) rfl rfl rfl zd_X8_share ⟨(Nat.le_of_ble_eq_true rfl), (Nat.le_of_ble_eq_true rfl)⟩) hK hP hD hS hA [29, 30] [0, 1, 2, 3, 4, 5, 6, 7, 8, 9, 10, 11, 12, 13, 14, 15, 16, 17, 18, 19, 20, 21, 22, 23, 24, 25, 26, 27, 28, 31, 32, 33, 34, 35, 36, 37, 38, 39, 40, 41, 42, 43] [0, 1, 2, 3, 4, 5, 6, 7, 8, 9, 10, 11, 12, 13, 14, 15, 16, 17, 18, 19, 20, 21, 22, 23, 24, 25, 26, 27, 28, 42, 43, 29, 30, 31, 32, 33, 34, 35, 36, 37, 38, 39, 40, 41] rfl (by decide) rfl (by decide) (by decide) (w2 := fun uq_ : Unit => LW ad bd cy m_ s_ pl_ pd_ c_ rn_ z_ (mU m_) pl_ pd_ f_ u_ l_ s_.2 at_ iw_ tl_ is_ o1_ o2_ o3_ cc_ nx_ sb_ lc_) (fun _ => rfl) (by decide) rfl rfl rfl rfl hl.1 rfl (Nat.le_of_ble_eq_true rfl) dL_law_626 hcs (fun r626 u626 H locs h626 hP hD hS => ?_)
  obtain ⟨hr626, h626⟩ := h626
  have hr626 : r626 = qShare m_ := hr626
  subst hr626
  have hP : va_P D vwCl (LW ad bd cy m_ s_ pl_ pd_ c_ rn_ z_ (mU m_) pl_ pd_ f_ u_ l_ s_.2 at_ iw_ tl_ is_ o1_ o2_ o3_ cc_ nx_ sb_ lc_) H := hP
  have hD : va_D zA (LW ad bd cy m_ s_ pl_ pd_ c_ rn_ z_ (mU m_) pl_ pd_ f_ u_ l_ s_.2 at_ iw_ tl_ is_ o1_ o2_ o3_ cc_ nx_ sb_ lc_) := hD
  refine lv_icmp_eq (tgt := 897) hx hb dL_law_629 (by decide) (fun _ => ?_) (fun hne_ => absurd rfl hne_)
  exact next _ _ ⟨m_, s_, pl_, pd_, c_, rn_, z_, f_, u_, l_, at_, iw_, tl_, is_, o1_, o2_, o3_, cc_, nx_, sb_, lc_, ⟨hok, hM, hSl, hpdk, (rd_mono hrdk (by omega))⟩, hP, hD, hS⟩ ls hl
set_option maxHeartbeats 4000000 in
set_option maxRecDepth 100000 in
theorem law_byCut {p : Program} {l : Launch} {e : Env} {s : State} {m : MethodId} {below : List Frame} {meth : Method} {c : Code} {b L : Nat} {xs : Nat → Int32} {D : va_G} {cy : Nat → ClassId} {ad bd : Nat → Nat} {zA : Nat → Prop} {cells slots : Nat} {Q : State → Prop} (hx : p.tables.exec = Jvm.exec) (hb : c.code = cL_law) (hml : c.maxLocals = 4) (hts : ∀ w ∈ w_law, w.before #[Value.ref b] s = true) (hown : s.vm.findClass RL = some m.cls) (hX : va_X b L xs s s.heap) (hbl : b < s.heap.size) (hbA : ¬ zA b) (hK : zK D cy s) (hA : ∀ q : Nat, s.heap.size ≤ q → zA q) (hcs : cells ≤ room_1.cells ∧ slots ≤ room_1.slots) (hL : L ≤ 2048) {i_ : Nat} (hi : i_ + 4 ≤ L) {H : Heap} {locs : List Loc} (inv : LInv D cy zA s.heap ad bd i_ H locs) (next : ∀ (H : Heap) (locs : List Loc), LInv D cy zA s.heap ad bd (i_ + 4) H locs → ∀ ls : Array Slot, lv_has ls 4 [(0, .ref b), (1, .ref (ad 0)), (2, .ref (bd 0)), (3, .int (nI i_))] → W p l e room_1 s m #[Value.ref b] below meth c H locs cells slots Q (F0 m 897 ls [])) : ∀ ls : Array Slot, lv_has ls 4 [(0, .ref b), (1, .ref (ad 0)), (2, .ref (bd 0)), (3, .int (nI i_))] → W p l e room_1 s m #[Value.ref b] below meth c H locs cells slots Q (F0 m 634 ls []) := by
  intro ls hl
  obtain ⟨m_, s_, pl_, pd_, c_, rn_, z_, f_, u_, l_, at_, iw_, tl_, is_, o1_, o2_, o3_, cc_, nx_, sb_, lc_, ⟨hok, hM, hSl, hpdk, hrdk⟩, hP, hD, hS⟩ := inv
  have hw := hok.1
  have hX6 := hok.2.1
  have hU6 := hok.2.2
  have hp := hpdk.1
  have hpd := hpdk.2
  have hrd := hrdk.1
  have hric2 := hrdk.2
  refine lv_aload_n hx hb dL_law_634 rfl (lv_at hl 1 rfl) ?_
  refine lv_aload_n hx hb dL_law_635 rfl (lv_at hl 0 rfl) ?_
  refine lv_iload_n hx hb dL_law_636 rfl (lv_at hl 3 rfl) ?_
  refine lv_iconst (v := nI 1) hx hb dL_law_637 (by decide) ?_
  refine zi_add (v := nI (i_ + 1)) hx hb dL_law_638 (nI_add _ _) ?_
  refine zi_sld hx hb hX hbl hbA hS (show i_ + 1 < L by omega) (by omega) dL_law_639 ?_
  refine lv_aload_n hx hb dL_law_640 rfl (lv_at hl 0 rfl) ?_
  refine lv_iload_n hx hb dL_law_641 rfl (lv_at hl 3 rfl) ?_
  refine lv_iconst (v := nI 2) hx hb dL_law_642 (by decide) ?_
  refine zi_add (v := nI (i_ + 2)) hx hb dL_law_643 (nI_add _ _) ?_
  refine zi_sld hx hb hX hbl hbA hS (show i_ + 2 < L by omega) (by omega) dL_law_644 ?_
  refine lv_aload_n hx hb dL_law_645 rfl (lv_at hl 0 rfl) ?_
  refine lv_iload_n hx hb dL_law_646 rfl (lv_at hl 3 rfl) ?_
  refine lv_iconst (v := nI 3) hx hb dL_law_647 (by decide) ?_
  refine zi_add (v := nI (i_ + 3)) hx hb dL_law_648 (nI_add _ _) ?_
  refine zi_sld hx hb hX hbl hbA hS (show i_ + 3 < L by omega) (by omega) dL_law_649 ?_
  refine zcRi (As := [.int (xs (i_ + 1)), .int (xs (i_ + 2)), .int (xs (i_ + 3))]) (rest := []) ⟨hx, hb, hml, hown, hts⟩ (c_X7_byCut l D cy ad m_ pl_ (xs (i_ + 1)) (xs (i_ + 2)) (xs (i_ + 3)) hw) (cwV 3 hts (zG_V zw_632 zw_633 zw_634 zw_2 zw_635) rfl rfl rfl zd_X7_byCut ⟨(Nat.le_of_ble_eq_true rfl), (Nat.le_of_ble_eq_true rfl)⟩) hK hP [0, 1, 2] rfl rfl rfl rfl rfl hl.1 rfl (Nat.le_of_ble_eq_true rfl) dL_law_650 hcs (fun r650 h650 => ?_)
  subst h650
  refine lv_aload_n hx hb dL_law_653 rfl (lv_at hl 2 rfl) ?_
  refine lv_aload_n hx hb dL_law_654 rfl (lv_at hl 0 rfl) ?_
  refine lv_iload_n hx hb dL_law_655 rfl (lv_at hl 3 rfl) ?_
  refine lv_iconst (v := nI 1) hx hb dL_law_656 (by decide) ?_
  refine zi_add (v := nI (i_ + 1)) hx hb dL_law_657 (nI_add _ _) ?_
  refine zi_sld hx hb hX hbl hbA hS (show i_ + 1 < L by omega) (by omega) dL_law_658 ?_
  refine lv_aload_n hx hb dL_law_659 rfl (lv_at hl 0 rfl) ?_
  refine lv_iload_n hx hb dL_law_660 rfl (lv_at hl 3 rfl) ?_
  refine lv_iconst (v := nI 2) hx hb dL_law_661 (by decide) ?_
  refine zi_add (v := nI (i_ + 2)) hx hb dL_law_662 (nI_add _ _) ?_
  refine zi_sld hx hb hX hbl hbA hS (show i_ + 2 < L by omega) (by omega) dL_law_663 ?_
  refine lv_aload_n hx hb dL_law_664 rfl (lv_at hl 0 rfl) ?_
  refine lv_iload_n hx hb dL_law_665 rfl (lv_at hl 3 rfl) ?_
  refine lv_iconst (v := nI 3) hx hb dL_law_666 (by decide) ?_
  refine zi_add (v := nI (i_ + 3)) hx hb dL_law_667 (nI_add _ _) ?_
  refine zi_sld hx hb hX hbl hbA hS (show i_ + 3 < L by omega) (by omega) dL_law_668 ?_
  refine zcWi (As := [.int (xs (i_ + 1)), .int (xs (i_ + 2)), .int (xs (i_ + 3))]) (rest := [.int (qByCut m_ (xs (i_ + 1)) (xs (i_ + 2)) (xs (i_ + 3)))]) (wr := [0, 1, 2, 3, 4, 5, 6, 7, 8, 9, 10, 11, 12, 13, 14, 15, 16, 17, 18, 19, 20, 21, 22, 23, 24, 25, 26, 27, 28, 31, 32, 33, 34, 35, 36, 40, 42, 43].filterMap (fun i => (LW ad bd cy m_ s_ pl_ pd_ c_ rn_ z_ (mU m_) pl_ pd_ f_ u_ l_ s_.2 at_ iw_ tl_ is_ o1_ o2_ o3_ cc_ nx_ sb_ lc_)[i]?)) ⟨hx, hb, hml, hown, hts⟩ (c_X8_byCut l D cy H.size bd (mU m_) pl_ at_ iw_ f_ m_ o1_ o2_ o3_ nx_ (xs (i_ + 1)) (xs (i_ + 2)) (xs (i_ + 3)) hw hM.1) (cwV 3 hts (zG_V zw_636 zw_637 zw_638 zw_5 zw_639) rfl rfl rfl zd_X8_byCut ⟨(Nat.le_of_ble_eq_true rfl), (Nat.le_of_ble_eq_true rfl)⟩) hK hP hD hS hA [29, 30, 37, 38, 39, 41] [0, 1, 2, 3, 4, 5, 6, 7, 8, 9, 10, 11, 12, 13, 14, 15, 16, 17, 18, 19, 20, 21, 22, 23, 24, 25, 26, 27, 28, 31, 32, 33, 34, 35, 36, 40, 42, 43] [0, 1, 2, 3, 4, 5, 6, 7, 8, 9, 10, 11, 12, 13, 14, 15, 16, 17, 18, 19, 20, 21, 22, 23, 24, 25, 26, 27, 28, 38, 39, 29, 30, 31, 32, 33, 34, 40, 41, 42, 35, 43, 36, 37] rfl (by decide) rfl (by decide) (by decide) (w2 := fun uq_ : (Nat → Nat) × (Nat → Nat) × (Nat → Nat) × (Nat → Nat) => LW ad bd cy m_ s_ pl_ pd_ c_ rn_ z_ (mU m_) pl_ pd_ f_ u_ l_ s_.2 at_ iw_ tl_ is_ uq_.1 uq_.2.1 uq_.2.2.1 cc_ uq_.2.2.2 sb_ lc_) (fun _ => rfl) (by decide) rfl rfl rfl rfl hl.1 rfl (Nat.le_of_ble_eq_true rfl) dL_law_669 hcs (fun r669 u669 H locs h669 hP hD hS => ?_)
  obtain ⟨y1_m, y2_m, y3_m, yx_m⟩ := u669
  obtain ⟨hr669, h669⟩ := h669
  have hr669 : r669 = qByCut m_ (xs (i_ + 1)) (xs (i_ + 2)) (xs (i_ + 3)) := hr669
  subst hr669
  have hP : va_P D vwCl (LW ad bd cy m_ s_ pl_ pd_ c_ rn_ z_ (mU m_) pl_ pd_ f_ u_ l_ s_.2 at_ iw_ tl_ is_ y1_m y2_m y3_m cc_ yx_m sb_ lc_) H := hP
  have hD : va_D zA (LW ad bd cy m_ s_ pl_ pd_ c_ rn_ z_ (mU m_) pl_ pd_ f_ u_ l_ s_.2 at_ iw_ tl_ is_ y1_m y2_m y3_m cc_ yx_m sb_ lc_) := hD
  refine lv_icmp_eq (tgt := 897) hx hb dL_law_672 (by decide) (fun _ => ?_) (fun hne_ => absurd rfl hne_)
  exact next _ _ ⟨m_, s_, pl_, pd_, c_, rn_, z_, f_, u_, l_, at_, iw_, tl_, is_, y1_m, y2_m, y3_m, cc_, yx_m, sb_, lc_, ⟨hok, hM, hSl, hpdk, (rd_mono hrdk (by omega))⟩, hP, hD, hS⟩ ls hl
set_option maxHeartbeats 4000000 in
set_option maxRecDepth 100000 in
theorem law_becomes {p : Program} {l : Launch} {e : Env} {s : State} {m : MethodId} {below : List Frame} {meth : Method} {c : Code} {b L : Nat} {xs : Nat → Int32} {D : va_G} {cy : Nat → ClassId} {ad bd : Nat → Nat} {zA : Nat → Prop} {cells slots : Nat} {Q : State → Prop} (hx : p.tables.exec = Jvm.exec) (hb : c.code = cL_law) (hml : c.maxLocals = 4) (hts : ∀ w ∈ w_law, w.before #[Value.ref b] s = true) (hown : s.vm.findClass RL = some m.cls) (hX : va_X b L xs s s.heap) (hbl : b < s.heap.size) (hbA : ¬ zA b) (hK : zK D cy s) (hA : ∀ q : Nat, s.heap.size ≤ q → zA q) (hcs : cells ≤ room_1.cells ∧ slots ≤ room_1.slots) (hL : L ≤ 2048) {i_ : Nat} (hi : i_ + 4 ≤ L) {H : Heap} {locs : List Loc} (inv : LInv D cy zA s.heap ad bd i_ H locs) (next : ∀ (H : Heap) (locs : List Loc), LInv D cy zA s.heap ad bd (i_ + 4) H locs → ∀ ls : Array Slot, lv_has ls 4 [(0, .ref b), (1, .ref (ad 0)), (2, .ref (bd 0)), (3, .int (nI i_))] → W p l e room_1 s m #[Value.ref b] below meth c H locs cells slots Q (F0 m 897 ls [])) : ∀ ls : Array Slot, lv_has ls 4 [(0, .ref b), (1, .ref (ad 0)), (2, .ref (bd 0)), (3, .int (nI i_))] → W p l e room_1 s m #[Value.ref b] below meth c H locs cells slots Q (F0 m 677 ls []) := by
  intro ls hl
  obtain ⟨m_, s_, pl_, pd_, c_, rn_, z_, f_, u_, l_, at_, iw_, tl_, is_, o1_, o2_, o3_, cc_, nx_, sb_, lc_, ⟨hok, hM, hSl, hpdk, hrdk⟩, hP, hD, hS⟩ := inv
  have hw := hok.1
  have hX6 := hok.2.1
  have hU6 := hok.2.2
  have hp := hpdk.1
  have hpd := hpdk.2
  have hrd := hrdk.1
  have hric2 := hrdk.2
  refine lv_aload_n hx hb dL_law_677 rfl (lv_at hl 1 rfl) ?_
  refine lv_aload_n hx hb dL_law_678 rfl (lv_at hl 0 rfl) ?_
  refine lv_iload_n hx hb dL_law_679 rfl (lv_at hl 3 rfl) ?_
  refine lv_iconst (v := nI 1) hx hb dL_law_680 (by decide) ?_
  refine zi_add (v := nI (i_ + 1)) hx hb dL_law_681 (nI_add _ _) ?_
  refine zi_sld hx hb hX hbl hbA hS (show i_ + 1 < L by omega) (by omega) dL_law_682 ?_
  refine lv_aload_n hx hb dL_law_683 rfl (lv_at hl 0 rfl) ?_
  refine lv_iload_n hx hb dL_law_684 rfl (lv_at hl 3 rfl) ?_
  refine lv_iconst (v := nI 2) hx hb dL_law_685 (by decide) ?_
  refine zi_add (v := nI (i_ + 2)) hx hb dL_law_686 (nI_add _ _) ?_
  refine zi_sld hx hb hX hbl hbA hS (show i_ + 2 < L by omega) (by omega) dL_law_687 ?_
  refine zcRi (As := [.int (xs (i_ + 1)), .int (xs (i_ + 2))]) (rest := []) ⟨hx, hb, hml, hown, hts⟩ (c_X7_becomes l D cy ad m_ pl_ (xs (i_ + 1)) (xs (i_ + 2)) hw) (cwV 2 hts (zG_V zw_644 zw_645 zw_646 zw_2 zw_647) rfl rfl rfl zd_X7_becomes ⟨(Nat.le_of_ble_eq_true rfl), (Nat.le_of_ble_eq_true rfl)⟩) hK hP [0, 1, 2] rfl rfl rfl rfl rfl hl.1 rfl (Nat.le_of_ble_eq_true rfl) dL_law_688 hcs (fun r688 h688 => ?_)
  subst h688
  refine lv_aload_n hx hb dL_law_691 rfl (lv_at hl 2 rfl) ?_
  refine lv_aload_n hx hb dL_law_692 rfl (lv_at hl 0 rfl) ?_
  refine lv_iload_n hx hb dL_law_693 rfl (lv_at hl 3 rfl) ?_
  refine lv_iconst (v := nI 1) hx hb dL_law_694 (by decide) ?_
  refine zi_add (v := nI (i_ + 1)) hx hb dL_law_695 (nI_add _ _) ?_
  refine zi_sld hx hb hX hbl hbA hS (show i_ + 1 < L by omega) (by omega) dL_law_696 ?_
  refine lv_aload_n hx hb dL_law_697 rfl (lv_at hl 0 rfl) ?_
  refine lv_iload_n hx hb dL_law_698 rfl (lv_at hl 3 rfl) ?_
  refine lv_iconst (v := nI 2) hx hb dL_law_699 (by decide) ?_
  refine zi_add (v := nI (i_ + 2)) hx hb dL_law_700 (nI_add _ _) ?_
  refine zi_sld hx hb hX hbl hbA hS (show i_ + 2 < L by omega) (by omega) dL_law_701 ?_
  refine zcWi (As := [.int (xs (i_ + 1)), .int (xs (i_ + 2))]) (rest := [.int (qBecomes m_ (xs (i_ + 1)) (xs (i_ + 2)))]) (wr := [0, 1, 2, 3, 4, 5, 6, 7, 8, 9, 10, 11, 12, 13, 14, 15, 16, 17, 18, 19, 20, 21, 22, 23, 24, 25, 26, 27, 28, 31, 32, 33, 34, 35, 36, 40, 42, 43].filterMap (fun i => (LW ad bd cy m_ s_ pl_ pd_ c_ rn_ z_ (mU m_) pl_ pd_ f_ u_ l_ s_.2 at_ iw_ tl_ is_ o1_ o2_ o3_ cc_ nx_ sb_ lc_)[i]?)) ⟨hx, hb, hml, hown, hts⟩ (c_X8_becomes l D cy H.size bd (mU m_) pl_ at_ iw_ f_ m_ o1_ o2_ o3_ nx_ (xs (i_ + 1)) (xs (i_ + 2)) hw hM.1) (cwV 2 hts (zG_V zw_648 zw_649 zw_650 zw_5 zw_651) rfl rfl rfl zd_X8_becomes ⟨(Nat.le_of_ble_eq_true rfl), (Nat.le_of_ble_eq_true rfl)⟩) hK hP hD hS hA [29, 30, 37, 38, 39, 41] [0, 1, 2, 3, 4, 5, 6, 7, 8, 9, 10, 11, 12, 13, 14, 15, 16, 17, 18, 19, 20, 21, 22, 23, 24, 25, 26, 27, 28, 31, 32, 33, 34, 35, 36, 40, 42, 43] [0, 1, 2, 3, 4, 5, 6, 7, 8, 9, 10, 11, 12, 13, 14, 15, 16, 17, 18, 19, 20, 21, 22, 23, 24, 25, 26, 27, 28, 38, 39, 29, 30, 31, 32, 33, 34, 40, 41, 42, 35, 43, 36, 37] rfl (by decide) rfl (by decide) (by decide) (w2 := fun uq_ : (Nat → Nat) × (Nat → Nat) × (Nat → Nat) × (Nat → Nat) => LW ad bd cy m_ s_ pl_ pd_ c_ rn_ z_ (mU m_) pl_ pd_ f_ u_ l_ s_.2 at_ iw_ tl_ is_ uq_.1 uq_.2.1 uq_.2.2.1 cc_ uq_.2.2.2 sb_ lc_) (fun _ => rfl) (by decide) rfl rfl rfl rfl hl.1 rfl (Nat.le_of_ble_eq_true rfl) dL_law_702 hcs (fun r702 u702 H locs h702 hP hD hS => ?_)
  obtain ⟨y1_m, y2_m, y3_m, yx_m⟩ := u702
  obtain ⟨hr702, h702⟩ := h702
  have hr702 : r702 = qBecomes m_ (xs (i_ + 1)) (xs (i_ + 2)) := hr702
  subst hr702
  have hP : va_P D vwCl (LW ad bd cy m_ s_ pl_ pd_ c_ rn_ z_ (mU m_) pl_ pd_ f_ u_ l_ s_.2 at_ iw_ tl_ is_ y1_m y2_m y3_m cc_ yx_m sb_ lc_) H := hP
  have hD : va_D zA (LW ad bd cy m_ s_ pl_ pd_ c_ rn_ z_ (mU m_) pl_ pd_ f_ u_ l_ s_.2 at_ iw_ tl_ is_ y1_m y2_m y3_m cc_ yx_m sb_ lc_) := hD
  refine lv_icmp_eq (tgt := 897) hx hb dL_law_705 (by decide) (fun _ => ?_) (fun hne_ => absurd rfl hne_)
  exact next _ _ ⟨m_, s_, pl_, pd_, c_, rn_, z_, f_, u_, l_, at_, iw_, tl_, is_, y1_m, y2_m, y3_m, cc_, yx_m, sb_, lc_, ⟨hok, hM, hSl, hpdk, (rd_mono hrdk (by omega))⟩, hP, hD, hS⟩ ls hl
set_option maxHeartbeats 4000000 in
set_option maxRecDepth 100000 in
theorem law_ordersIn {p : Program} {l : Launch} {e : Env} {s : State} {m : MethodId} {below : List Frame} {meth : Method} {c : Code} {b L : Nat} {xs : Nat → Int32} {D : va_G} {cy : Nat → ClassId} {ad bd : Nat → Nat} {zA : Nat → Prop} {cells slots : Nat} {Q : State → Prop} (hx : p.tables.exec = Jvm.exec) (hb : c.code = cL_law) (hml : c.maxLocals = 4) (hts : ∀ w ∈ w_law, w.before #[Value.ref b] s = true) (hown : s.vm.findClass RL = some m.cls) (hX : va_X b L xs s s.heap) (hbl : b < s.heap.size) (hbA : ¬ zA b) (hK : zK D cy s) (hA : ∀ q : Nat, s.heap.size ≤ q → zA q) (hcs : cells ≤ room_1.cells ∧ slots ≤ room_1.slots) (hL : L ≤ 2048) {i_ : Nat} (hi : i_ + 4 ≤ L) {H : Heap} {locs : List Loc} (inv : LInv D cy zA s.heap ad bd i_ H locs) (next : ∀ (H : Heap) (locs : List Loc), LInv D cy zA s.heap ad bd (i_ + 4) H locs → ∀ ls : Array Slot, lv_has ls 4 [(0, .ref b), (1, .ref (ad 0)), (2, .ref (bd 0)), (3, .int (nI i_))] → W p l e room_1 s m #[Value.ref b] below meth c H locs cells slots Q (F0 m 897 ls [])) : ∀ ls : Array Slot, lv_has ls 4 [(0, .ref b), (1, .ref (ad 0)), (2, .ref (bd 0)), (3, .int (nI i_))] → W p l e room_1 s m #[Value.ref b] below meth c H locs cells slots Q (F0 m 710 ls []) := by
  intro ls hl
  obtain ⟨m_, s_, pl_, pd_, c_, rn_, z_, f_, u_, l_, at_, iw_, tl_, is_, o1_, o2_, o3_, cc_, nx_, sb_, lc_, ⟨hok, hM, hSl, hpdk, hrdk⟩, hP, hD, hS⟩ := inv
  have hw := hok.1
  have hX6 := hok.2.1
  have hU6 := hok.2.2
  have hp := hpdk.1
  have hpd := hpdk.2
  have hrd := hrdk.1
  have hric2 := hrdk.2
  refine lv_aload_n hx hb dL_law_710 rfl (lv_at hl 1 rfl) ?_
  refine lv_aload_n hx hb dL_law_711 rfl (lv_at hl 0 rfl) ?_
  refine lv_iload_n hx hb dL_law_712 rfl (lv_at hl 3 rfl) ?_
  refine lv_iconst (v := nI 1) hx hb dL_law_713 (by decide) ?_
  refine zi_add (v := nI (i_ + 1)) hx hb dL_law_714 (nI_add _ _) ?_
  refine zi_sld hx hb hX hbl hbA hS (show i_ + 1 < L by omega) (by omega) dL_law_715 ?_
  refine zcWi (As := [.int (xs (i_ + 1))]) (rest := []) (wr := [3, 4, 5, 6, 7, 8, 9, 10, 11, 12, 13, 14, 15, 16, 17, 18, 19, 20, 21, 22, 23, 24, 27, 28, 29, 30, 31, 32, 33, 34, 35, 36, 37, 38, 39, 40, 41, 42, 43].filterMap (fun i => (LW ad bd cy m_ s_ pl_ pd_ c_ rn_ z_ (mU m_) pl_ pd_ f_ u_ l_ s_.2 at_ iw_ tl_ is_ o1_ o2_ o3_ cc_ nx_ sb_ lc_)[i]?)) ⟨hx, hb, hml, hown, hts⟩ (c_X7_ordersIn l D cy H.size ad m_ pl_ c_ (xs (i_ + 1)) hw) (cwV 1 hts (zG_V zw_652 zw_653 zw_654 zw_2 zw_655) rfl rfl rfl zd_X7_ordersIn ⟨(Nat.le_of_ble_eq_true rfl), (Nat.le_of_ble_eq_true rfl)⟩) hK hP hD hS hA [0, 1, 2, 25, 26] [3, 4, 5, 6, 7, 8, 9, 10, 11, 12, 13, 14, 15, 16, 17, 18, 19, 20, 21, 22, 23, 24, 27, 28, 29, 30, 31, 32, 33, 34, 35, 36, 37, 38, 39, 40, 41, 42, 43] [39, 40, 41, 0, 1, 2, 3, 4, 5, 6, 7, 8, 9, 10, 11, 12, 13, 14, 15, 16, 17, 18, 19, 20, 21, 42, 43, 22, 23, 24, 25, 26, 27, 28, 29, 30, 31, 32, 33, 34, 35, 36, 37, 38] rfl (by decide) rfl (by decide) (by decide) (w2 := fun uq_ : (Nat → Nat) => LW ad bd cy m_ s_ pl_ pd_ uq_ rn_ z_ (mU m_) pl_ pd_ f_ u_ l_ s_.2 at_ iw_ tl_ is_ o1_ o2_ o3_ cc_ nx_ sb_ lc_) (fun _ => rfl) (by decide) rfl rfl rfl rfl hl.1 rfl (Nat.le_of_ble_eq_true rfl) dL_law_716 hcs (fun r716 u716 H locs h716 hP hD hS => ?_)
  obtain ⟨d_x, rfl⟩ : ∃ z_, z_ = u716 := ⟨_, rfl⟩
  obtain ⟨hr716, h716⟩ := h716
  have hr716 : r716 = qOrdersIn m_ (xs (i_ + 1)) := hr716
  subst hr716
  have hP : va_P D vwCl (LW ad bd cy m_ s_ pl_ pd_ d_x rn_ z_ (mU m_) pl_ pd_ f_ u_ l_ s_.2 at_ iw_ tl_ is_ o1_ o2_ o3_ cc_ nx_ sb_ lc_) H := hP
  have hD : va_D zA (LW ad bd cy m_ s_ pl_ pd_ d_x rn_ z_ (mU m_) pl_ pd_ f_ u_ l_ s_.2 at_ iw_ tl_ is_ o1_ o2_ o3_ cc_ nx_ sb_ lc_) := hD
  refine lv_aload_n hx hb dL_law_719 rfl (lv_at hl 2 rfl) ?_
  refine lv_aload_n hx hb dL_law_720 rfl (lv_at hl 0 rfl) ?_
  refine lv_iload_n hx hb dL_law_721 rfl (lv_at hl 3 rfl) ?_
  refine lv_iconst (v := nI 1) hx hb dL_law_722 (by decide) ?_
  refine zi_add (v := nI (i_ + 1)) hx hb dL_law_723 (nI_add _ _) ?_
  refine zi_sld hx hb hX hbl hbA hS (show i_ + 1 < L by omega) (by omega) dL_law_724 ?_
  refine zcWi (As := [.int (xs (i_ + 1))]) (rest := [.int (qOrdersIn m_ (xs (i_ + 1)))]) (wr := [0, 1, 2, 3, 4, 5, 6, 7, 8, 9, 10, 11, 12, 13, 14, 15, 16, 17, 18, 19, 20, 21, 22, 23, 24, 25, 26, 27, 28, 31, 32, 33, 34, 35, 36, 38, 39, 40, 41, 42, 43].filterMap (fun i => (LW ad bd cy m_ s_ pl_ pd_ d_x rn_ z_ (mU m_) pl_ pd_ f_ u_ l_ s_.2 at_ iw_ tl_ is_ o1_ o2_ o3_ cc_ nx_ sb_ lc_)[i]?)) ⟨hx, hb, hml, hown, hts⟩ (c_X8_ordersIn l D cy H.size bd (mU m_) pl_ at_ iw_ f_ m_ o1_ (xs (i_ + 1)) hw hM.1) (cwV 1 hts (zG_V zw_656 zw_657 zw_658 zw_5 zw_659) rfl rfl rfl zd_X8_ordersIn ⟨(Nat.le_of_ble_eq_true rfl), (Nat.le_of_ble_eq_true rfl)⟩) hK hP hD hS hA [29, 30, 37] [0, 1, 2, 3, 4, 5, 6, 7, 8, 9, 10, 11, 12, 13, 14, 15, 16, 17, 18, 19, 20, 21, 22, 23, 24, 25, 26, 27, 28, 31, 32, 33, 34, 35, 36, 38, 39, 40, 41, 42, 43] [0, 1, 2, 3, 4, 5, 6, 7, 8, 9, 10, 11, 12, 13, 14, 15, 16, 17, 18, 19, 20, 21, 22, 23, 24, 25, 26, 27, 28, 41, 42, 29, 30, 31, 32, 33, 34, 43, 35, 36, 37, 38, 39, 40] rfl (by decide) rfl (by decide) (by decide) (w2 := fun uq_ : (Nat → Nat) => LW ad bd cy m_ s_ pl_ pd_ d_x rn_ z_ (mU m_) pl_ pd_ f_ u_ l_ s_.2 at_ iw_ tl_ is_ uq_ o2_ o3_ cc_ nx_ sb_ lc_) (fun _ => rfl) (by decide) rfl rfl rfl rfl hl.1 rfl (Nat.le_of_ble_eq_true rfl) dL_law_725 hcs (fun r725 u725 H locs h725 hP hD hS => ?_)
  obtain ⟨y1_m, rfl⟩ : ∃ z_, z_ = u725 := ⟨_, rfl⟩
  obtain ⟨hr725, h725⟩ := h725
  have hr725 : r725 = qOrdersIn m_ (xs (i_ + 1)) := hr725
  subst hr725
  have hP : va_P D vwCl (LW ad bd cy m_ s_ pl_ pd_ d_x rn_ z_ (mU m_) pl_ pd_ f_ u_ l_ s_.2 at_ iw_ tl_ is_ y1_m o2_ o3_ cc_ nx_ sb_ lc_) H := hP
  have hD : va_D zA (LW ad bd cy m_ s_ pl_ pd_ d_x rn_ z_ (mU m_) pl_ pd_ f_ u_ l_ s_.2 at_ iw_ tl_ is_ y1_m o2_ o3_ cc_ nx_ sb_ lc_) := hD
  refine lv_icmp_eq (tgt := 897) hx hb dL_law_728 (by decide) (fun _ => ?_) (fun hne_ => absurd rfl hne_)
  exact next _ _ ⟨m_, s_, pl_, pd_, d_x, rn_, z_, f_, u_, l_, at_, iw_, tl_, is_, y1_m, o2_, o3_, cc_, nx_, sb_, lc_, ⟨hok, hM, hSl, hpdk, (rd_mono hrdk (by omega))⟩, hP, hD, hS⟩ ls hl
set_option maxHeartbeats 4000000 in
set_option maxRecDepth 100000 in
theorem law_fewestSteps {p : Program} {l : Launch} {e : Env} {s : State} {m : MethodId} {below : List Frame} {meth : Method} {c : Code} {b L : Nat} {xs : Nat → Int32} {D : va_G} {cy : Nat → ClassId} {ad bd : Nat → Nat} {zA : Nat → Prop} {cells slots : Nat} {Q : State → Prop} (hx : p.tables.exec = Jvm.exec) (hb : c.code = cL_law) (hml : c.maxLocals = 4) (hts : ∀ w ∈ w_law, w.before #[Value.ref b] s = true) (hown : s.vm.findClass RL = some m.cls) (hX : va_X b L xs s s.heap) (hbl : b < s.heap.size) (hbA : ¬ zA b) (hK : zK D cy s) (hA : ∀ q : Nat, s.heap.size ≤ q → zA q) (hcs : cells ≤ room_1.cells ∧ slots ≤ room_1.slots) (hL : L ≤ 2048) {i_ : Nat} (hi : i_ + 4 ≤ L) {H : Heap} {locs : List Loc} (inv : LInv D cy zA s.heap ad bd i_ H locs) (next : ∀ (H : Heap) (locs : List Loc), LInv D cy zA s.heap ad bd (i_ + 4) H locs → ∀ ls : Array Slot, lv_has ls 4 [(0, .ref b), (1, .ref (ad 0)), (2, .ref (bd 0)), (3, .int (nI i_))] → W p l e room_1 s m #[Value.ref b] below meth c H locs cells slots Q (F0 m 897 ls [])) : ∀ ls : Array Slot, lv_has ls 4 [(0, .ref b), (1, .ref (ad 0)), (2, .ref (bd 0)), (3, .int (nI i_))] → W p l e room_1 s m #[Value.ref b] below meth c H locs cells slots Q (F0 m 733 ls []) := by
  intro ls hl
  obtain ⟨m_, s_, pl_, pd_, c_, rn_, z_, f_, u_, l_, at_, iw_, tl_, is_, o1_, o2_, o3_, cc_, nx_, sb_, lc_, ⟨hok, hM, hSl, hpdk, hrdk⟩, hP, hD, hS⟩ := inv
  have hw := hok.1
  have hX6 := hok.2.1
  have hU6 := hok.2.2
  have hp := hpdk.1
  have hpd := hpdk.2
  have hrd := hrdk.1
  have hric2 := hrdk.2
  refine lv_aload_n hx hb dL_law_733 rfl (lv_at hl 1 rfl) ?_
  refine zcRi (As := []) (rest := []) ⟨hx, hb, hml, hown, hts⟩ (c_X7_fewestSteps l D cy ad m_ pl_ hw) (cwV 0 hts (zG_V zw_660 zw_661 zw_662 zw_2 zw_663) rfl rfl rfl zd_X7_fewestSteps ⟨(Nat.le_of_ble_eq_true rfl), (Nat.le_of_ble_eq_true rfl)⟩) hK hP [0, 1] rfl rfl rfl rfl rfl hl.1 rfl (Nat.le_of_ble_eq_true rfl) dL_law_734 hcs (fun r734 h734 => ?_)
  subst h734
  refine lv_aload_n hx hb dL_law_737 rfl (lv_at hl 2 rfl) ?_
  refine zcWi (As := []) (rest := [.int (fewS (mP m_) (mN m_))]) (wr := [0, 1, 2, 3, 4, 5, 6, 7, 8, 9, 10, 11, 12, 13, 14, 15, 16, 17, 18, 19, 20, 21, 22, 23, 24, 25, 26, 27, 28, 31, 32, 33, 34, 35, 36, 38, 39, 42, 43].filterMap (fun i => (LW ad bd cy m_ s_ pl_ pd_ c_ rn_ z_ (mU m_) pl_ pd_ f_ u_ l_ s_.2 at_ iw_ tl_ is_ o1_ o2_ o3_ cc_ nx_ sb_ lc_)[i]?)) ⟨hx, hb, hml, hown, hts⟩ (c_X8_fewestSteps l D cy H.size bd (mU m_) pl_ at_ iw_ f_ m_ o1_ cc_ nx_ hw hM.1) (cwV 0 hts (zG_V zw_676 zw_677 zw_678 zw_5 zw_679) rfl rfl rfl zd_X8_fewestSteps ⟨(Nat.le_of_ble_eq_true rfl), (Nat.le_of_ble_eq_true rfl)⟩) hK hP hD hS hA [29, 30, 37, 40, 41] [0, 1, 2, 3, 4, 5, 6, 7, 8, 9, 10, 11, 12, 13, 14, 15, 16, 17, 18, 19, 20, 21, 22, 23, 24, 25, 26, 27, 28, 31, 32, 33, 34, 35, 36, 38, 39, 42, 43] [0, 1, 2, 3, 4, 5, 6, 7, 8, 9, 10, 11, 12, 13, 14, 15, 16, 17, 18, 19, 20, 21, 22, 23, 24, 25, 26, 27, 28, 39, 40, 29, 30, 31, 32, 33, 34, 41, 35, 36, 42, 43, 37, 38] rfl (by decide) rfl (by decide) (by decide) (w2 := fun uq_ : (Nat → Nat) × (Nat → Nat) × (Nat → Nat) => LW ad bd cy m_ s_ pl_ pd_ c_ rn_ z_ (mU m_) pl_ pd_ f_ u_ l_ s_.2 at_ iw_ tl_ is_ uq_.1 o2_ o3_ uq_.2.1 uq_.2.2 sb_ lc_) (fun _ => rfl) (by decide) rfl rfl rfl rfl hl.1 rfl (Nat.le_of_ble_eq_true rfl) dL_law_738 hcs (fun r738 u738 H locs h738 hP hD hS => ?_)
  obtain ⟨y1_m, yc_m, yx_m⟩ := u738
  obtain ⟨hr738, h738⟩ := h738
  have hr738 : r738 = fewS (mP m_) (mN m_) := hr738
  subst hr738
  have hP : va_P D vwCl (LW ad bd cy m_ s_ pl_ pd_ c_ rn_ z_ (mU m_) pl_ pd_ f_ u_ l_ s_.2 at_ iw_ tl_ is_ y1_m o2_ o3_ yc_m yx_m sb_ lc_) H := hP
  have hD : va_D zA (LW ad bd cy m_ s_ pl_ pd_ c_ rn_ z_ (mU m_) pl_ pd_ f_ u_ l_ s_.2 at_ iw_ tl_ is_ y1_m o2_ o3_ yc_m yx_m sb_ lc_) := hD
  refine lv_icmp_eq (tgt := 897) hx hb dL_law_741 (by decide) (fun _ => ?_) (fun hne_ => absurd rfl hne_)
  exact next _ _ ⟨m_, s_, pl_, pd_, c_, rn_, z_, f_, u_, l_, at_, iw_, tl_, is_, y1_m, o2_, o3_, yc_m, yx_m, sb_, lc_, ⟨hok, hM, hSl, hpdk, (rd_mono hrdk (by omega))⟩, hP, hD, hS⟩ ls hl

set_option maxHeartbeats 4000000 in
set_option maxRecDepth 100000 in
theorem law_set {p : Program} {l : Launch} {e : Env} {s : State} {m : MethodId} {below : List Frame} {meth : Method} {c : Code} {b L : Nat} {xs : Nat → Int32} {D : va_G} {cy : Nat → ClassId} {ad bd : Nat → Nat} {zA : Nat → Prop} {cells slots : Nat} {Q : State → Prop} (hx : p.tables.exec = Jvm.exec) (hb : c.code = cL_law) (hml : c.maxLocals = 4) (hts : ∀ w ∈ w_law, w.before #[Value.ref b] s = true) (hown : s.vm.findClass RL = some m.cls) (hX : va_X b L xs s s.heap) (hbl : b < s.heap.size) (hbA : ¬ zA b) (hK : zK D cy s) (hA : ∀ q : Nat, s.heap.size ≤ q → zA q) (hcs : cells ≤ room_1.cells ∧ slots ≤ room_1.slots) (hL : L ≤ 2048) {i_ : Nat} (hi : i_ + 4 ≤ L) {H : Heap} {locs : List Loc} (inv : LInv D cy zA s.heap ad bd i_ H locs) (next : ∀ (H : Heap) (locs : List Loc), LInv D cy zA s.heap ad bd (i_ + 4) H locs → ∀ ls : Array Slot, lv_has ls 4 [(0, .ref b), (1, .ref (ad 0)), (2, .ref (bd 0)), (3, .int (nI i_))] → W p l e room_1 s m #[Value.ref b] below meth c H locs cells slots Q (F0 m 897 ls [])) : ∀ ls : Array Slot, lv_has ls 4 [(0, .ref b), (1, .ref (ad 0)), (2, .ref (bd 0)), (3, .int (nI i_))] → W p l e room_1 s m #[Value.ref b] below meth c H locs cells slots Q (F0 m 172 ls []) := by
  intro ls hl
  obtain ⟨m_, s_, pl_, pd_, c_, rn_, z_, f_, u_, l_, at_, iw_, tl_, is_, o1_, o2_, o3_, cc_, nx_, sb_, lc_, ⟨hok, hM, hSl, hpdk, hrdk⟩, hP, hD, hS⟩ := inv
  have hw := hok.1
  have hX6 := hok.2.1
  have hU6 := hok.2.2
  have hp := hpdk.1
  have hpd := hpdk.2
  have hrd := hrdk.1
  have hric2 := hrdk.2
  refine lv_aload_n hx hb dL_law_172 rfl (lv_at hl 1 rfl) ?_
  refine lv_aload_n hx hb dL_law_173 rfl (lv_at hl 0 rfl) ?_
  refine lv_iload_n hx hb dL_law_174 rfl (lv_at hl 3 rfl) ?_
  refine lv_iconst (v := nI 1) hx hb dL_law_175 (by decide) ?_
  refine zi_add (v := nI (i_ + 1)) hx hb dL_law_176 (nI_add _ _) ?_
  refine zi_sld hx hb hX hbl hbA hS (show i_ + 1 < L by omega) (by omega) dL_law_177 ?_
  refine zcWi (As := [.int (xs (i_ + 1))]) (rest := []) (wr := [18, 19, 20, 21, 22, 23, 24, 25, 26, 27, 28, 29, 30, 31, 32, 33, 34, 35, 36, 37, 38, 39, 40, 41, 42, 43].filterMap (fun i => (LW ad bd cy m_ s_ pl_ pd_ c_ rn_ z_ (mU m_) pl_ pd_ f_ u_ l_ s_.2 at_ iw_ tl_ is_ o1_ o2_ o3_ cc_ nx_ sb_ lc_)[i]?)) ⟨hx, hb, hml, hown, hts⟩ (c_X7_set l D cy H.size ad m_ pl_ (xs (i_ + 1)) hw hX6 hU6) (cwV 1 hts (zG_V zw_93 zw_94 zw_95 zw_2 zw_96) rfl rfl rfl zd_X7_set ⟨(Nat.le_of_ble_eq_true rfl), (Nat.le_of_ble_eq_true rfl)⟩) hK hP hD hS hA [0, 1, 2, 3, 4, 5, 6, 7, 8, 9, 10, 11, 12, 13, 14, 15, 16, 17] [18, 19, 20, 21, 22, 23, 24, 25, 26, 27, 28, 29, 30, 31, 32, 33, 34, 35, 36, 37, 38, 39, 40, 41, 42, 43] [26, 27, 28, 29, 30, 31, 32, 33, 34, 35, 36, 37, 38, 39, 40, 41, 42, 43, 0, 1, 2, 3, 4, 5, 6, 7, 8, 9, 10, 11, 12, 13, 14, 15, 16, 17, 18, 19, 20, 21, 22, 23, 24, 25] rfl (by decide) rfl (by decide) (by decide) (w2 := fun uq_ : Unit => LW ad bd cy ((opSet m_ (xs (i_ + 1))).2) s_ pl_ pd_ c_ rn_ z_ (mU m_) pl_ pd_ f_ u_ l_ s_.2 at_ iw_ tl_ is_ o1_ o2_ o3_ cc_ nx_ sb_ lc_) (fun _ => rfl) (by decide) rfl rfl rfl rfl hl.1 rfl (Nat.le_of_ble_eq_true rfl) dL_law_178 hcs (fun r178 u178 H locs h178 hP hD hS => ?_)
  obtain ⟨hr178, h178⟩ := h178
  have hr178 : r178 = (opSet m_ (xs (i_ + 1))).1 := hr178
  subst hr178
  have hP : va_P D vwCl (LW ad bd cy ((opSet m_ (xs (i_ + 1))).2) s_ pl_ pd_ c_ rn_ z_ (mU m_) pl_ pd_ f_ u_ l_ s_.2 at_ iw_ tl_ is_ o1_ o2_ o3_ cc_ nx_ sb_ lc_) H := hP
  have hD : va_D zA (LW ad bd cy ((opSet m_ (xs (i_ + 1))).2) s_ pl_ pd_ c_ rn_ z_ (mU m_) pl_ pd_ f_ u_ l_ s_.2 at_ iw_ tl_ is_ o1_ o2_ o3_ cc_ nx_ sb_ lc_) := hD
  refine lv_aload_n hx hb dL_law_181 rfl (lv_at hl 2 rfl) ?_
  refine lv_aload_n hx hb dL_law_182 rfl (lv_at hl 0 rfl) ?_
  refine lv_iload_n hx hb dL_law_183 rfl (lv_at hl 3 rfl) ?_
  refine lv_iconst (v := nI 1) hx hb dL_law_184 (by decide) ?_
  refine zi_add (v := nI (i_ + 1)) hx hb dL_law_185 (nI_add _ _) ?_
  refine zi_sld hx hb hX hbl hbA hS (show i_ + 1 < L by omega) (by omega) dL_law_186 ?_
  refine zcWi (As := [.int (xs (i_ + 1))]) (rest := [.int ((opSet m_ (xs (i_ + 1))).1)]) (wr := [0, 1, 2, 3, 4, 5, 6, 7, 8, 9, 10, 11, 12, 13, 14, 15, 16, 17, 18, 19, 20, 21, 22, 23, 24, 25, 26, 27, 28, 32, 33, 34, 35, 36, 37, 38, 39, 40, 41, 42, 43].filterMap (fun i => (LW ad bd cy ((opSet m_ (xs (i_ + 1))).2) s_ pl_ pd_ c_ rn_ z_ (mU m_) pl_ pd_ f_ u_ l_ s_.2 at_ iw_ tl_ is_ o1_ o2_ o3_ cc_ nx_ sb_ lc_)[i]?)) ⟨hx, hb, hml, hown, hts⟩ (c_X8_set l D cy H.size bd m_ pl_ at_ iw_ f_ u_ (xs (i_ + 1)) hw hX6 hU6 hM) (cwV 1 hts (zG_V zw_117 zw_118 zw_119 zw_5 zw_120) rfl rfl rfl zd_X8_set ⟨(Nat.le_of_ble_eq_true rfl), (Nat.le_of_ble_eq_true rfl)⟩) hK hP hD hS hA [29, 30, 31] [0, 1, 2, 3, 4, 5, 6, 7, 8, 9, 10, 11, 12, 13, 14, 15, 16, 17, 18, 19, 20, 21, 22, 23, 24, 25, 26, 27, 28, 32, 33, 34, 35, 36, 37, 38, 39, 40, 41, 42, 43] [0, 1, 2, 3, 4, 5, 6, 7, 8, 9, 10, 11, 12, 13, 14, 15, 16, 17, 18, 19, 20, 21, 22, 23, 24, 25, 26, 27, 28, 41, 42, 43, 29, 30, 31, 32, 33, 34, 35, 36, 37, 38, 39, 40] rfl (by decide) rfl (by decide) (by decide) (w2 := fun uq_ : (Nat → Nat) × (Nat → Nat) => LW ad bd cy ((opSet m_ (xs (i_ + 1))).2) s_ pl_ pd_ c_ rn_ z_ (mU ((opSet m_ (xs (i_ + 1))).2)) pl_ pd_ uq_.1 uq_.2 l_ s_.2 at_ iw_ tl_ is_ o1_ o2_ o3_ cc_ nx_ sb_ lc_) (fun _ => rfl) (by decide) rfl rfl rfl rfl hl.1 rfl (Nat.le_of_ble_eq_true rfl) dL_law_187 hcs (fun r187 u187 H locs h187 hP hD hS => ?_)
  obtain ⟨w_m, v_m⟩ := u187
  obtain ⟨hr187, h187⟩ := h187
  have hr187 : r187 = (opSet m_ (xs (i_ + 1))).1 := hr187
  have hm : MR (opSet m_ (xs (i_ + 1))).2 w_m v_m := h187
  subst hr187
  have hP : va_P D vwCl (LW ad bd cy ((opSet m_ (xs (i_ + 1))).2) s_ pl_ pd_ c_ rn_ z_ (mU ((opSet m_ (xs (i_ + 1))).2)) pl_ pd_ w_m v_m l_ s_.2 at_ iw_ tl_ is_ o1_ o2_ o3_ cc_ nx_ sb_ lc_) H := hP
  have hD : va_D zA (LW ad bd cy ((opSet m_ (xs (i_ + 1))).2) s_ pl_ pd_ c_ rn_ z_ (mU ((opSet m_ (xs (i_ + 1))).2)) pl_ pd_ w_m v_m l_ s_.2 at_ iw_ tl_ is_ o1_ o2_ o3_ cc_ nx_ sb_ lc_) := hD
  refine lv_icmp_eq (tgt := 897) hx hb dL_law_190 (by decide) (fun _ => ?_) (fun hne_ => absurd rfl hne_)
  exact next _ _ ⟨((opSet m_ (xs (i_ + 1))).2), s_, pl_, pd_, c_, rn_, z_, w_m, v_m, l_, at_, iw_, tl_, is_, o1_, o2_, o3_, cc_, nx_, sb_, lc_, ⟨(ok_set hok (xs (i_ + 1))), hm, hSl, hpdk, (rd_mono hrdk (by omega))⟩, hP, hD, hS⟩ ls hl
set_option maxHeartbeats 4000000 in
set_option maxRecDepth 100000 in
theorem law_mark {p : Program} {l : Launch} {e : Env} {s : State} {m : MethodId} {below : List Frame} {meth : Method} {c : Code} {b L : Nat} {xs : Nat → Int32} {D : va_G} {cy : Nat → ClassId} {ad bd : Nat → Nat} {zA : Nat → Prop} {cells slots : Nat} {Q : State → Prop} (hx : p.tables.exec = Jvm.exec) (hb : c.code = cL_law) (hml : c.maxLocals = 4) (hts : ∀ w ∈ w_law, w.before #[Value.ref b] s = true) (hown : s.vm.findClass RL = some m.cls) (hX : va_X b L xs s s.heap) (hbl : b < s.heap.size) (hbA : ¬ zA b) (hK : zK D cy s) (hA : ∀ q : Nat, s.heap.size ≤ q → zA q) (hcs : cells ≤ room_1.cells ∧ slots ≤ room_1.slots) (hL : L ≤ 2048) {i_ : Nat} (hi : i_ + 4 ≤ L) {H : Heap} {locs : List Loc} (inv : LInv D cy zA s.heap ad bd i_ H locs) (next : ∀ (H : Heap) (locs : List Loc), LInv D cy zA s.heap ad bd (i_ + 4) H locs → ∀ ls : Array Slot, lv_has ls 4 [(0, .ref b), (1, .ref (ad 0)), (2, .ref (bd 0)), (3, .int (nI i_))] → W p l e room_1 s m #[Value.ref b] below meth c H locs cells slots Q (F0 m 897 ls [])) : ∀ ls : Array Slot, lv_has ls 4 [(0, .ref b), (1, .ref (ad 0)), (2, .ref (bd 0)), (3, .int (nI i_))] → W p l e room_1 s m #[Value.ref b] below meth c H locs cells slots Q (F0 m 195 ls []) := by
  intro ls hl
  obtain ⟨m_, s_, pl_, pd_, c_, rn_, z_, f_, u_, l_, at_, iw_, tl_, is_, o1_, o2_, o3_, cc_, nx_, sb_, lc_, ⟨hok, hM, hSl, hpdk, hrdk⟩, hP, hD, hS⟩ := inv
  have hw := hok.1
  have hX6 := hok.2.1
  have hU6 := hok.2.2
  have hp := hpdk.1
  have hpd := hpdk.2
  have hrd := hrdk.1
  have hric2 := hrdk.2
  refine lv_aload_n hx hb dL_law_195 rfl (lv_at hl 1 rfl) ?_
  refine zcWi (As := []) (rest := []) (wr := [18, 19, 20, 21, 22, 23, 24, 25, 26, 29, 30, 31, 32, 33, 34, 35, 36, 37, 38, 39, 40, 41, 42, 43].filterMap (fun i => (LW ad bd cy m_ s_ pl_ pd_ c_ rn_ z_ (mU m_) pl_ pd_ f_ u_ l_ s_.2 at_ iw_ tl_ is_ o1_ o2_ o3_ cc_ nx_ sb_ lc_)[i]?)) ⟨hx, hb, hml, hown, hts⟩ (c_X7_mark l D cy H.size ad m_ pl_ pd_ rn_ z_ hw hX6 hU6 hp hpd hrd (by omega)) (cwV 0 hts (zG_V zw_129 zw_130 zw_131 zw_2 zw_132) rfl rfl rfl zd_X7_mark ⟨(Nat.le_of_ble_eq_true rfl), (Nat.le_of_ble_eq_true rfl)⟩) hK hP hD hS hA [0, 1, 2, 3, 4, 5, 6, 7, 8, 9, 10, 11, 12, 13, 14, 15, 16, 17, 28, 27] [18, 19, 20, 21, 22, 23, 24, 25, 26, 29, 30, 31, 32, 33, 34, 35, 36, 37, 38, 39, 40, 41, 42, 43] [24, 25, 26, 27, 28, 29, 30, 31, 32, 33, 34, 35, 36, 37, 38, 39, 40, 41, 0, 1, 2, 3, 4, 5, 6, 7, 8, 43, 42, 9, 10, 11, 12, 13, 14, 15, 16, 17, 18, 19, 20, 21, 22, 23] rfl (by decide) rfl (by decide) (by decide) (w2 := fun uq_ : RS => LW ad bd cy ((opMark m_ (fltI (mN m_) pd_ (0, stayL, 0, z_.2.2.2.1, z_.2.2.2.2.1, z_.2.2.2.2.2.1, z_.2.2.2.2.2.2) pl_) (rsAt (mN m_) pd_ (0, stayL, 0, z_.2.2.2.1, z_.2.2.2.2.1, z_.2.2.2.2.2.1, z_.2.2.2.2.2.2) pl_).2.1).2) s_ (opMarkL m_ (fltI (mN m_) pd_ (0, stayL, 0, z_.2.2.2.1, z_.2.2.2.2.1, z_.2.2.2.2.2.1, z_.2.2.2.2.2.2) pl_) pl_) pd_ c_ (mN m_) uq_ (mU m_) pl_ pd_ f_ u_ l_ s_.2 at_ iw_ tl_ is_ o1_ o2_ o3_ cc_ nx_ sb_ lc_) (fun _ => rfl) (by decide) rfl rfl rfl rfl hl.1 rfl (Nat.le_of_ble_eq_true rfl) dL_law_196 hcs (fun r196 u196 H locs h196 hP hD hS => ?_)
  obtain ⟨w_x, rfl⟩ : ∃ z_, z_ = u196 := ⟨_, rfl⟩
  obtain ⟨hr196, h196⟩ := h196
  have hr196 : r196 = (opMark m_ (fltI (mN m_) pd_ (0, stayL, 0, z_.2.2.2.1, z_.2.2.2.2.1, z_.2.2.2.2.2.1, z_.2.2.2.2.2.2) pl_) (rsAt (mN m_) pd_ (0, stayL, 0, z_.2.2.2.1, z_.2.2.2.2.1, z_.2.2.2.2.2.1, z_.2.2.2.2.2.2) pl_).2.1).1 := hr196
  have hcx_ : w_x.2.2.2.1 < 16 ∧ w_x.2.2.2.2.2.1 < 16 ∧ w_x.2.2.2.2.2.2 < 16 ∧ w_x.2.2.2.2.1 ≤ z_.2.2.2.2.1 + 80 := h196
  subst hr196
  have hP : va_P D vwCl (LW ad bd cy ((opMark m_ (fltI (mN m_) pd_ (0, stayL, 0, z_.2.2.2.1, z_.2.2.2.2.1, z_.2.2.2.2.2.1, z_.2.2.2.2.2.2) pl_) (rsAt (mN m_) pd_ (0, stayL, 0, z_.2.2.2.1, z_.2.2.2.2.1, z_.2.2.2.2.2.1, z_.2.2.2.2.2.2) pl_).2.1).2) s_ (opMarkL m_ (fltI (mN m_) pd_ (0, stayL, 0, z_.2.2.2.1, z_.2.2.2.2.1, z_.2.2.2.2.2.1, z_.2.2.2.2.2.2) pl_) pl_) pd_ c_ (mN m_) w_x (mU m_) pl_ pd_ f_ u_ l_ s_.2 at_ iw_ tl_ is_ o1_ o2_ o3_ cc_ nx_ sb_ lc_) H := hP
  have hD : va_D zA (LW ad bd cy ((opMark m_ (fltI (mN m_) pd_ (0, stayL, 0, z_.2.2.2.1, z_.2.2.2.2.1, z_.2.2.2.2.2.1, z_.2.2.2.2.2.2) pl_) (rsAt (mN m_) pd_ (0, stayL, 0, z_.2.2.2.1, z_.2.2.2.2.1, z_.2.2.2.2.2.1, z_.2.2.2.2.2.2) pl_).2.1).2) s_ (opMarkL m_ (fltI (mN m_) pd_ (0, stayL, 0, z_.2.2.2.1, z_.2.2.2.2.1, z_.2.2.2.2.2.1, z_.2.2.2.2.2.2) pl_) pl_) pd_ c_ (mN m_) w_x (mU m_) pl_ pd_ f_ u_ l_ s_.2 at_ iw_ tl_ is_ o1_ o2_ o3_ cc_ nx_ sb_ lc_) := hD
  refine lv_aload_n hx hb dL_law_199 rfl (lv_at hl 2 rfl) ?_
  refine zcWi (As := []) (rest := [.int ((opMark m_ (fltI (mN m_) pd_ (0, stayL, 0, z_.2.2.2.1, z_.2.2.2.2.1, z_.2.2.2.2.2.1, z_.2.2.2.2.2.2) pl_) (rsAt (mN m_) pd_ (0, stayL, 0, z_.2.2.2.1, z_.2.2.2.2.1, z_.2.2.2.2.2.1, z_.2.2.2.2.2.2) pl_).2.1).1)]) (wr := [0, 1, 2, 3, 4, 5, 6, 7, 8, 9, 10, 11, 12, 13, 14, 15, 16, 17, 18, 19, 20, 21, 22, 23, 24, 25, 26, 27, 28, 32, 33, 37, 38, 39, 40, 41, 42, 43].filterMap (fun i => (LW ad bd cy ((opMark m_ (fltI (mN m_) pd_ (0, stayL, 0, z_.2.2.2.1, z_.2.2.2.2.1, z_.2.2.2.2.2.1, z_.2.2.2.2.2.2) pl_) (rsAt (mN m_) pd_ (0, stayL, 0, z_.2.2.2.1, z_.2.2.2.2.1, z_.2.2.2.2.2.1, z_.2.2.2.2.2.2) pl_).2.1).2) s_ (opMarkL m_ (fltI (mN m_) pd_ (0, stayL, 0, z_.2.2.2.1, z_.2.2.2.2.1, z_.2.2.2.2.2.1, z_.2.2.2.2.2.2) pl_) pl_) pd_ c_ (mN m_) w_x (mU m_) pl_ pd_ f_ u_ l_ s_.2 at_ iw_ tl_ is_ o1_ o2_ o3_ cc_ nx_ sb_ lc_)[i]?)) ⟨hx, hb, hml, hown, hts⟩ (c_X8_mark l D cy H.size bd m_ pl_ at_ iw_ f_ u_ pd_ is_ tl_ (0, stayL, 0, z_.2.2.2.1, z_.2.2.2.2.1, z_.2.2.2.2.2.1, z_.2.2.2.2.2.2) hw hX6 hU6 hM hp hpd ⟨rfl, rfl, rfl⟩) (cwV 0 hts (zG_V zw_191 zw_192 zw_193 zw_5 zw_194) rfl rfl rfl zd_X8_mark ⟨(Nat.le_of_ble_eq_true rfl), (Nat.le_of_ble_eq_true rfl)⟩) hK hP hD hS hA [29, 30, 31, 34, 35, 36] [0, 1, 2, 3, 4, 5, 6, 7, 8, 9, 10, 11, 12, 13, 14, 15, 16, 17, 18, 19, 20, 21, 22, 23, 24, 25, 26, 27, 28, 32, 33, 37, 38, 39, 40, 41, 42, 43] [0, 1, 2, 3, 4, 5, 6, 7, 8, 9, 10, 11, 12, 13, 14, 15, 16, 17, 18, 19, 20, 21, 22, 23, 24, 25, 26, 27, 28, 38, 39, 40, 29, 30, 41, 42, 43, 31, 32, 33, 34, 35, 36, 37] rfl (by decide) rfl (by decide) (by decide) (w2 := fun uq_ : (Nat → Nat) × (Nat → Nat) × Nat × Bool × (Nat → Bool) × (Nat → Nat) => LW ad bd cy ((opMark m_ (fltI (mN m_) pd_ (0, stayL, 0, z_.2.2.2.1, z_.2.2.2.2.1, z_.2.2.2.2.2.1, z_.2.2.2.2.2.2) pl_) (rsAt (mN m_) pd_ (0, stayL, 0, z_.2.2.2.1, z_.2.2.2.2.1, z_.2.2.2.2.2.1, z_.2.2.2.2.2.2) pl_).2.1).2) s_ (opMarkL m_ (fltI (mN m_) pd_ (0, stayL, 0, z_.2.2.2.1, z_.2.2.2.2.1, z_.2.2.2.2.2.1, z_.2.2.2.2.2.2) pl_) pl_) pd_ c_ (mN m_) w_x (mU ((opMark m_ (fltI (mN m_) pd_ (0, stayL, 0, z_.2.2.2.1, z_.2.2.2.2.1, z_.2.2.2.2.2.1, z_.2.2.2.2.2.2) pl_) (rsAt (mN m_) pd_ (0, stayL, 0, z_.2.2.2.1, z_.2.2.2.2.1, z_.2.2.2.2.2.1, z_.2.2.2.2.2.2) pl_).2.1).2)) (opMarkL m_ (fltI (mN m_) pd_ (0, stayL, 0, z_.2.2.2.1, z_.2.2.2.2.1, z_.2.2.2.2.2.1, z_.2.2.2.2.2.2) pl_) pl_) pd_ uq_.1 uq_.2.1 l_ s_.2 uq_.2.2.1 uq_.2.2.2.1 uq_.2.2.2.2.2 uq_.2.2.2.2.1 o1_ o2_ o3_ cc_ nx_ sb_ lc_) (fun _ => rfl) (by decide) rfl rfl rfl rfl hl.1 rfl (Nat.le_of_ble_eq_true rfl) dL_law_200 hcs (fun r200 u200 H locs h200 hP hD hS => ?_)
  obtain ⟨w_m, v_m, j8_m, w8_m, i2_m, t2_m⟩ := u200
  obtain ⟨hr200, h200⟩ := h200
  have hr200 : r200 = (opMark m_ (fltI (mN m_) pd_ (0, stayL, 0, z_.2.2.2.1, z_.2.2.2.2.1, z_.2.2.2.2.2.1, z_.2.2.2.2.2.2) pl_) (rsAt (mN m_) pd_ (0, stayL, 0, z_.2.2.2.1, z_.2.2.2.2.1, z_.2.2.2.2.2.1, z_.2.2.2.2.2.2) pl_).2.1).1 := hr200
  have hm : MR (opMark m_ (fltI (mN m_) pd_ (0, stayL, 0, z_.2.2.2.1, z_.2.2.2.2.1, z_.2.2.2.2.2.1, z_.2.2.2.2.2.2) pl_) (rsAt (mN m_) pd_ (0, stayL, 0, z_.2.2.2.1, z_.2.2.2.2.1, z_.2.2.2.2.2.1, z_.2.2.2.2.2.2) pl_).2.1).2 w_m v_m := h200
  subst hr200
  have hP : va_P D vwCl (LW ad bd cy ((opMark m_ (fltI (mN m_) pd_ (0, stayL, 0, z_.2.2.2.1, z_.2.2.2.2.1, z_.2.2.2.2.2.1, z_.2.2.2.2.2.2) pl_) (rsAt (mN m_) pd_ (0, stayL, 0, z_.2.2.2.1, z_.2.2.2.2.1, z_.2.2.2.2.2.1, z_.2.2.2.2.2.2) pl_).2.1).2) s_ (opMarkL m_ (fltI (mN m_) pd_ (0, stayL, 0, z_.2.2.2.1, z_.2.2.2.2.1, z_.2.2.2.2.2.1, z_.2.2.2.2.2.2) pl_) pl_) pd_ c_ (mN m_) w_x (mU ((opMark m_ (fltI (mN m_) pd_ (0, stayL, 0, z_.2.2.2.1, z_.2.2.2.2.1, z_.2.2.2.2.2.1, z_.2.2.2.2.2.2) pl_) (rsAt (mN m_) pd_ (0, stayL, 0, z_.2.2.2.1, z_.2.2.2.2.1, z_.2.2.2.2.2.1, z_.2.2.2.2.2.2) pl_).2.1).2)) (opMarkL m_ (fltI (mN m_) pd_ (0, stayL, 0, z_.2.2.2.1, z_.2.2.2.2.1, z_.2.2.2.2.2.1, z_.2.2.2.2.2.2) pl_) pl_) pd_ w_m v_m l_ s_.2 j8_m w8_m t2_m i2_m o1_ o2_ o3_ cc_ nx_ sb_ lc_) H := hP
  have hD : va_D zA (LW ad bd cy ((opMark m_ (fltI (mN m_) pd_ (0, stayL, 0, z_.2.2.2.1, z_.2.2.2.2.1, z_.2.2.2.2.2.1, z_.2.2.2.2.2.2) pl_) (rsAt (mN m_) pd_ (0, stayL, 0, z_.2.2.2.1, z_.2.2.2.2.1, z_.2.2.2.2.2.1, z_.2.2.2.2.2.2) pl_).2.1).2) s_ (opMarkL m_ (fltI (mN m_) pd_ (0, stayL, 0, z_.2.2.2.1, z_.2.2.2.2.1, z_.2.2.2.2.2.1, z_.2.2.2.2.2.2) pl_) pl_) pd_ c_ (mN m_) w_x (mU ((opMark m_ (fltI (mN m_) pd_ (0, stayL, 0, z_.2.2.2.1, z_.2.2.2.2.1, z_.2.2.2.2.2.1, z_.2.2.2.2.2.2) pl_) (rsAt (mN m_) pd_ (0, stayL, 0, z_.2.2.2.1, z_.2.2.2.2.1, z_.2.2.2.2.2.1, z_.2.2.2.2.2.2) pl_).2.1).2)) (opMarkL m_ (fltI (mN m_) pd_ (0, stayL, 0, z_.2.2.2.1, z_.2.2.2.2.1, z_.2.2.2.2.2.1, z_.2.2.2.2.2.2) pl_) pl_) pd_ w_m v_m l_ s_.2 j8_m w8_m t2_m i2_m o1_ o2_ o3_ cc_ nx_ sb_ lc_) := hD
  refine lv_icmp_eq (tgt := 897) hx hb dL_law_203 (by decide) (fun _ => ?_) (fun hne_ => absurd rfl hne_)
  exact next _ _ ⟨((opMark m_ (fltI (mN m_) pd_ (0, stayL, 0, z_.2.2.2.1, z_.2.2.2.2.1, z_.2.2.2.2.2.1, z_.2.2.2.2.2.2) pl_) (rsAt (mN m_) pd_ (0, stayL, 0, z_.2.2.2.1, z_.2.2.2.2.1, z_.2.2.2.2.2.1, z_.2.2.2.2.2.2) pl_).2.1).2), s_, (opMarkL m_ (fltI (mN m_) pd_ (0, stayL, 0, z_.2.2.2.1, z_.2.2.2.2.1, z_.2.2.2.2.2.1, z_.2.2.2.2.2.2) pl_) pl_), pd_, c_, (mN m_), w_x, w_m, v_m, l_, j8_m, w8_m, t2_m, i2_m, o1_, o2_, o3_, cc_, nx_, sb_, lc_, ⟨(ok_mark hok hp ⟨rfl, rfl, rfl⟩), hm, hSl, (pd_mark hpdk), (rd_read hrdk hcx_)⟩, hP, hD, hS⟩ ls hl
set_option maxHeartbeats 4000000 in
set_option maxRecDepth 100000 in
theorem law_product {p : Program} {l : Launch} {e : Env} {s : State} {m : MethodId} {below : List Frame} {meth : Method} {c : Code} {b L : Nat} {xs : Nat → Int32} {D : va_G} {cy : Nat → ClassId} {ad bd : Nat → Nat} {zA : Nat → Prop} {cells slots : Nat} {Q : State → Prop} (hx : p.tables.exec = Jvm.exec) (hb : c.code = cL_law) (hml : c.maxLocals = 4) (hts : ∀ w ∈ w_law, w.before #[Value.ref b] s = true) (hown : s.vm.findClass RL = some m.cls) (hX : va_X b L xs s s.heap) (hbl : b < s.heap.size) (hbA : ¬ zA b) (hK : zK D cy s) (hA : ∀ q : Nat, s.heap.size ≤ q → zA q) (hcs : cells ≤ room_1.cells ∧ slots ≤ room_1.slots) (hL : L ≤ 2048) {i_ : Nat} (hi : i_ + 4 ≤ L) {H : Heap} {locs : List Loc} (inv : LInv D cy zA s.heap ad bd i_ H locs) (next : ∀ (H : Heap) (locs : List Loc), LInv D cy zA s.heap ad bd (i_ + 4) H locs → ∀ ls : Array Slot, lv_has ls 4 [(0, .ref b), (1, .ref (ad 0)), (2, .ref (bd 0)), (3, .int (nI i_))] → W p l e room_1 s m #[Value.ref b] below meth c H locs cells slots Q (F0 m 897 ls [])) : ∀ ls : Array Slot, lv_has ls 4 [(0, .ref b), (1, .ref (ad 0)), (2, .ref (bd 0)), (3, .int (nI i_))] → W p l e room_1 s m #[Value.ref b] below meth c H locs cells slots Q (F0 m 208 ls []) := by
  intro ls hl
  obtain ⟨m_, s_, pl_, pd_, c_, rn_, z_, f_, u_, l_, at_, iw_, tl_, is_, o1_, o2_, o3_, cc_, nx_, sb_, lc_, ⟨hok, hM, hSl, hpdk, hrdk⟩, hP, hD, hS⟩ := inv
  have hw := hok.1
  have hX6 := hok.2.1
  have hU6 := hok.2.2
  have hp := hpdk.1
  have hpd := hpdk.2
  have hrd := hrdk.1
  have hric2 := hrdk.2
  refine lv_aload_n hx hb dL_law_208 rfl (lv_at hl 1 rfl) ?_
  refine lv_aload_n hx hb dL_law_209 rfl (lv_at hl 0 rfl) ?_
  refine lv_iload_n hx hb dL_law_210 rfl (lv_at hl 3 rfl) ?_
  refine lv_iconst (v := nI 1) hx hb dL_law_211 (by decide) ?_
  refine zi_add (v := nI (i_ + 1)) hx hb dL_law_212 (nI_add _ _) ?_
  refine zi_sld hx hb hX hbl hbA hS (show i_ + 1 < L by omega) (by omega) dL_law_213 ?_
  refine lv_aload_n hx hb dL_law_214 rfl (lv_at hl 0 rfl) ?_
  refine lv_iload_n hx hb dL_law_215 rfl (lv_at hl 3 rfl) ?_
  refine lv_iconst (v := nI 2) hx hb dL_law_216 (by decide) ?_
  refine zi_add (v := nI (i_ + 2)) hx hb dL_law_217 (nI_add _ _) ?_
  refine zi_sld hx hb hX hbl hbA hS (show i_ + 2 < L by omega) (by omega) dL_law_218 ?_
  refine zcWi (As := [.int (xs (i_ + 1)), .int (xs (i_ + 2))]) (rest := []) (wr := [18, 19, 20, 21, 22, 23, 24, 25, 26, 27, 28, 29, 30, 31, 32, 33, 34, 35, 36, 37, 38, 39, 40, 41, 42, 43].filterMap (fun i => (LW ad bd cy m_ s_ pl_ pd_ c_ rn_ z_ (mU m_) pl_ pd_ f_ u_ l_ s_.2 at_ iw_ tl_ is_ o1_ o2_ o3_ cc_ nx_ sb_ lc_)[i]?)) ⟨hx, hb, hml, hown, hts⟩ (c_X7_product l D cy H.size ad m_ pl_ (xs (i_ + 1)) (xs (i_ + 2)) hw hX6 hU6) (cwV 2 hts (zG_V zw_230 zw_231 zw_232 zw_2 zw_233) rfl rfl rfl zd_X7_product ⟨(Nat.le_of_ble_eq_true rfl), (Nat.le_of_ble_eq_true rfl)⟩) hK hP hD hS hA [0, 1, 2, 3, 4, 5, 6, 7, 8, 9, 10, 11, 12, 13, 14, 15, 16, 17] [18, 19, 20, 21, 22, 23, 24, 25, 26, 27, 28, 29, 30, 31, 32, 33, 34, 35, 36, 37, 38, 39, 40, 41, 42, 43] [26, 27, 28, 29, 30, 31, 32, 33, 34, 35, 36, 37, 38, 39, 40, 41, 42, 43, 0, 1, 2, 3, 4, 5, 6, 7, 8, 9, 10, 11, 12, 13, 14, 15, 16, 17, 18, 19, 20, 21, 22, 23, 24, 25] rfl (by decide) rfl (by decide) (by decide) (w2 := fun uq_ : Unit => LW ad bd cy ((opProduct m_ (xs (i_ + 1)) (xs (i_ + 2))).2) s_ pl_ pd_ c_ rn_ z_ (mU m_) pl_ pd_ f_ u_ l_ s_.2 at_ iw_ tl_ is_ o1_ o2_ o3_ cc_ nx_ sb_ lc_) (fun _ => rfl) (by decide) rfl rfl rfl rfl hl.1 rfl (Nat.le_of_ble_eq_true rfl) dL_law_219 hcs (fun r219 u219 H locs h219 hP hD hS => ?_)
  obtain ⟨hr219, h219⟩ := h219
  have hr219 : r219 = (opProduct m_ (xs (i_ + 1)) (xs (i_ + 2))).1 := hr219
  subst hr219
  have hP : va_P D vwCl (LW ad bd cy ((opProduct m_ (xs (i_ + 1)) (xs (i_ + 2))).2) s_ pl_ pd_ c_ rn_ z_ (mU m_) pl_ pd_ f_ u_ l_ s_.2 at_ iw_ tl_ is_ o1_ o2_ o3_ cc_ nx_ sb_ lc_) H := hP
  have hD : va_D zA (LW ad bd cy ((opProduct m_ (xs (i_ + 1)) (xs (i_ + 2))).2) s_ pl_ pd_ c_ rn_ z_ (mU m_) pl_ pd_ f_ u_ l_ s_.2 at_ iw_ tl_ is_ o1_ o2_ o3_ cc_ nx_ sb_ lc_) := hD
  refine lv_aload_n hx hb dL_law_222 rfl (lv_at hl 2 rfl) ?_
  refine lv_aload_n hx hb dL_law_223 rfl (lv_at hl 0 rfl) ?_
  refine lv_iload_n hx hb dL_law_224 rfl (lv_at hl 3 rfl) ?_
  refine lv_iconst (v := nI 1) hx hb dL_law_225 (by decide) ?_
  refine zi_add (v := nI (i_ + 1)) hx hb dL_law_226 (nI_add _ _) ?_
  refine zi_sld hx hb hX hbl hbA hS (show i_ + 1 < L by omega) (by omega) dL_law_227 ?_
  refine lv_aload_n hx hb dL_law_228 rfl (lv_at hl 0 rfl) ?_
  refine lv_iload_n hx hb dL_law_229 rfl (lv_at hl 3 rfl) ?_
  refine lv_iconst (v := nI 2) hx hb dL_law_230 (by decide) ?_
  refine zi_add (v := nI (i_ + 2)) hx hb dL_law_231 (nI_add _ _) ?_
  refine zi_sld hx hb hX hbl hbA hS (show i_ + 2 < L by omega) (by omega) dL_law_232 ?_
  refine zcWi (As := [.int (xs (i_ + 1)), .int (xs (i_ + 2))]) (rest := [.int ((opProduct m_ (xs (i_ + 1)) (xs (i_ + 2))).1)]) (wr := [0, 1, 2, 3, 4, 5, 6, 7, 8, 9, 10, 11, 12, 13, 14, 15, 16, 17, 18, 19, 20, 21, 22, 23, 24, 25, 26, 27, 28, 32, 33, 34, 35, 36, 40, 41, 42, 43].filterMap (fun i => (LW ad bd cy ((opProduct m_ (xs (i_ + 1)) (xs (i_ + 2))).2) s_ pl_ pd_ c_ rn_ z_ (mU m_) pl_ pd_ f_ u_ l_ s_.2 at_ iw_ tl_ is_ o1_ o2_ o3_ cc_ nx_ sb_ lc_)[i]?)) ⟨hx, hb, hml, hown, hts⟩ (c_X8_product l D cy H.size bd m_ pl_ at_ iw_ f_ u_ o1_ o2_ o3_ (xs (i_ + 1)) (xs (i_ + 2)) hw hX6 hU6 hM) (cwV 2 hts (zG_V zw_249 zw_250 zw_251 zw_5 zw_252) rfl rfl rfl zd_X8_product ⟨(Nat.le_of_ble_eq_true rfl), (Nat.le_of_ble_eq_true rfl)⟩) hK hP hD hS hA [29, 30, 31, 37, 38, 39] [0, 1, 2, 3, 4, 5, 6, 7, 8, 9, 10, 11, 12, 13, 14, 15, 16, 17, 18, 19, 20, 21, 22, 23, 24, 25, 26, 27, 28, 32, 33, 34, 35, 36, 40, 41, 42, 43] [0, 1, 2, 3, 4, 5, 6, 7, 8, 9, 10, 11, 12, 13, 14, 15, 16, 17, 18, 19, 20, 21, 22, 23, 24, 25, 26, 27, 28, 38, 39, 40, 29, 30, 31, 32, 33, 41, 42, 43, 34, 35, 36, 37] rfl (by decide) rfl (by decide) (by decide) (w2 := fun uq_ : (Nat → Nat) × (Nat → Nat) × (Nat → Nat) × (Nat → Nat) × (Nat → Nat) => LW ad bd cy ((opProduct m_ (xs (i_ + 1)) (xs (i_ + 2))).2) s_ pl_ pd_ c_ rn_ z_ (mU ((opProduct m_ (xs (i_ + 1)) (xs (i_ + 2))).2)) pl_ pd_ uq_.1 uq_.2.1 l_ s_.2 at_ iw_ tl_ is_ uq_.2.2.1 uq_.2.2.2.1 uq_.2.2.2.2 cc_ nx_ sb_ lc_) (fun _ => rfl) (by decide) rfl rfl rfl rfl hl.1 rfl (Nat.le_of_ble_eq_true rfl) dL_law_233 hcs (fun r233 u233 H locs h233 hP hD hS => ?_)
  obtain ⟨w_m, v_m, y1_m, y2_m, y3_m⟩ := u233
  obtain ⟨hr233, h233⟩ := h233
  have hr233 : r233 = (opProduct m_ (xs (i_ + 1)) (xs (i_ + 2))).1 := hr233
  have hm : MR (opProduct m_ (xs (i_ + 1)) (xs (i_ + 2))).2 w_m v_m := h233
  subst hr233
  have hP : va_P D vwCl (LW ad bd cy ((opProduct m_ (xs (i_ + 1)) (xs (i_ + 2))).2) s_ pl_ pd_ c_ rn_ z_ (mU ((opProduct m_ (xs (i_ + 1)) (xs (i_ + 2))).2)) pl_ pd_ w_m v_m l_ s_.2 at_ iw_ tl_ is_ y1_m y2_m y3_m cc_ nx_ sb_ lc_) H := hP
  have hD : va_D zA (LW ad bd cy ((opProduct m_ (xs (i_ + 1)) (xs (i_ + 2))).2) s_ pl_ pd_ c_ rn_ z_ (mU ((opProduct m_ (xs (i_ + 1)) (xs (i_ + 2))).2)) pl_ pd_ w_m v_m l_ s_.2 at_ iw_ tl_ is_ y1_m y2_m y3_m cc_ nx_ sb_ lc_) := hD
  refine lv_icmp_eq (tgt := 897) hx hb dL_law_236 (by decide) (fun _ => ?_) (fun hne_ => absurd rfl hne_)
  exact next _ _ ⟨((opProduct m_ (xs (i_ + 1)) (xs (i_ + 2))).2), s_, pl_, pd_, c_, rn_, z_, w_m, v_m, l_, at_, iw_, tl_, is_, y1_m, y2_m, y3_m, cc_, nx_, sb_, lc_, ⟨(ok_product hok (xs (i_ + 1)) (xs (i_ + 2))), hm, hSl, hpdk, (rd_mono hrdk (by omega))⟩, hP, hD, hS⟩ ls hl
set_option maxHeartbeats 4000000 in
set_option maxRecDepth 100000 in
theorem law_power {p : Program} {l : Launch} {e : Env} {s : State} {m : MethodId} {below : List Frame} {meth : Method} {c : Code} {b L : Nat} {xs : Nat → Int32} {D : va_G} {cy : Nat → ClassId} {ad bd : Nat → Nat} {zA : Nat → Prop} {cells slots : Nat} {Q : State → Prop} (hx : p.tables.exec = Jvm.exec) (hb : c.code = cL_law) (hml : c.maxLocals = 4) (hts : ∀ w ∈ w_law, w.before #[Value.ref b] s = true) (hown : s.vm.findClass RL = some m.cls) (hX : va_X b L xs s s.heap) (hbl : b < s.heap.size) (hbA : ¬ zA b) (hK : zK D cy s) (hA : ∀ q : Nat, s.heap.size ≤ q → zA q) (hcs : cells ≤ room_1.cells ∧ slots ≤ room_1.slots) (hL : L ≤ 2048) {i_ : Nat} (hi : i_ + 4 ≤ L) {H : Heap} {locs : List Loc} (inv : LInv D cy zA s.heap ad bd i_ H locs) (next : ∀ (H : Heap) (locs : List Loc), LInv D cy zA s.heap ad bd (i_ + 4) H locs → ∀ ls : Array Slot, lv_has ls 4 [(0, .ref b), (1, .ref (ad 0)), (2, .ref (bd 0)), (3, .int (nI i_))] → W p l e room_1 s m #[Value.ref b] below meth c H locs cells slots Q (F0 m 897 ls [])) : ∀ ls : Array Slot, lv_has ls 4 [(0, .ref b), (1, .ref (ad 0)), (2, .ref (bd 0)), (3, .int (nI i_))] → W p l e room_1 s m #[Value.ref b] below meth c H locs cells slots Q (F0 m 241 ls []) := by
  intro ls hl
  obtain ⟨m_, s_, pl_, pd_, c_, rn_, z_, f_, u_, l_, at_, iw_, tl_, is_, o1_, o2_, o3_, cc_, nx_, sb_, lc_, ⟨hok, hM, hSl, hpdk, hrdk⟩, hP, hD, hS⟩ := inv
  have hw := hok.1
  have hX6 := hok.2.1
  have hU6 := hok.2.2
  have hp := hpdk.1
  have hpd := hpdk.2
  have hrd := hrdk.1
  have hric2 := hrdk.2
  refine lv_aload_n hx hb dL_law_241 rfl (lv_at hl 1 rfl) ?_
  refine lv_aload_n hx hb dL_law_242 rfl (lv_at hl 0 rfl) ?_
  refine lv_iload_n hx hb dL_law_243 rfl (lv_at hl 3 rfl) ?_
  refine lv_iconst (v := nI 1) hx hb dL_law_244 (by decide) ?_
  refine zi_add (v := nI (i_ + 1)) hx hb dL_law_245 (nI_add _ _) ?_
  refine zi_sld hx hb hX hbl hbA hS (show i_ + 1 < L by omega) (by omega) dL_law_246 ?_
  refine lv_aload_n hx hb dL_law_247 rfl (lv_at hl 0 rfl) ?_
  refine lv_iload_n hx hb dL_law_248 rfl (lv_at hl 3 rfl) ?_
  refine lv_iconst (v := nI 2) hx hb dL_law_249 (by decide) ?_
  refine zi_add (v := nI (i_ + 2)) hx hb dL_law_250 (nI_add _ _) ?_
  refine zi_sld hx hb hX hbl hbA hS (show i_ + 2 < L by omega) (by omega) dL_law_251 ?_
  refine zcWi (As := [.int (xs (i_ + 1)), .int (xs (i_ + 2))]) (rest := []) (wr := [18, 19, 20, 21, 22, 23, 24, 25, 26, 27, 28, 29, 30, 31, 32, 33, 34, 35, 36, 37, 38, 39, 40, 41, 42, 43].filterMap (fun i => (LW ad bd cy m_ s_ pl_ pd_ c_ rn_ z_ (mU m_) pl_ pd_ f_ u_ l_ s_.2 at_ iw_ tl_ is_ o1_ o2_ o3_ cc_ nx_ sb_ lc_)[i]?)) ⟨hx, hb, hml, hown, hts⟩ (c_X7_power l D cy H.size ad m_ pl_ (xs (i_ + 1)) (xs (i_ + 2)) hw hX6 hU6) (cwV 2 hts (zG_V zw_269 zw_270 zw_271 zw_2 zw_272) rfl rfl rfl zd_X7_power ⟨(Nat.le_of_ble_eq_true rfl), (Nat.le_of_ble_eq_true rfl)⟩) hK hP hD hS hA [0, 1, 2, 3, 4, 5, 6, 7, 8, 9, 10, 11, 12, 13, 14, 15, 16, 17] [18, 19, 20, 21, 22, 23, 24, 25, 26, 27, 28, 29, 30, 31, 32, 33, 34, 35, 36, 37, 38, 39, 40, 41, 42, 43] [26, 27, 28, 29, 30, 31, 32, 33, 34, 35, 36, 37, 38, 39, 40, 41, 42, 43, 0, 1, 2, 3, 4, 5, 6, 7, 8, 9, 10, 11, 12, 13, 14, 15, 16, 17, 18, 19, 20, 21, 22, 23, 24, 25] rfl (by decide) rfl (by decide) (by decide) (w2 := fun uq_ : Unit => LW ad bd cy ((opPower m_ (xs (i_ + 1)) (xs (i_ + 2))).2) s_ pl_ pd_ c_ rn_ z_ (mU m_) pl_ pd_ f_ u_ l_ s_.2 at_ iw_ tl_ is_ o1_ o2_ o3_ cc_ nx_ sb_ lc_) (fun _ => rfl) (by decide) rfl rfl rfl rfl hl.1 rfl (Nat.le_of_ble_eq_true rfl) dL_law_252 hcs (fun r252 u252 H locs h252 hP hD hS => ?_)
  obtain ⟨hr252, h252⟩ := h252
  have hr252 : r252 = (opPower m_ (xs (i_ + 1)) (xs (i_ + 2))).1 := hr252
  subst hr252
  have hP : va_P D vwCl (LW ad bd cy ((opPower m_ (xs (i_ + 1)) (xs (i_ + 2))).2) s_ pl_ pd_ c_ rn_ z_ (mU m_) pl_ pd_ f_ u_ l_ s_.2 at_ iw_ tl_ is_ o1_ o2_ o3_ cc_ nx_ sb_ lc_) H := hP
  have hD : va_D zA (LW ad bd cy ((opPower m_ (xs (i_ + 1)) (xs (i_ + 2))).2) s_ pl_ pd_ c_ rn_ z_ (mU m_) pl_ pd_ f_ u_ l_ s_.2 at_ iw_ tl_ is_ o1_ o2_ o3_ cc_ nx_ sb_ lc_) := hD
  refine lv_aload_n hx hb dL_law_255 rfl (lv_at hl 2 rfl) ?_
  refine lv_aload_n hx hb dL_law_256 rfl (lv_at hl 0 rfl) ?_
  refine lv_iload_n hx hb dL_law_257 rfl (lv_at hl 3 rfl) ?_
  refine lv_iconst (v := nI 1) hx hb dL_law_258 (by decide) ?_
  refine zi_add (v := nI (i_ + 1)) hx hb dL_law_259 (nI_add _ _) ?_
  refine zi_sld hx hb hX hbl hbA hS (show i_ + 1 < L by omega) (by omega) dL_law_260 ?_
  refine lv_aload_n hx hb dL_law_261 rfl (lv_at hl 0 rfl) ?_
  refine lv_iload_n hx hb dL_law_262 rfl (lv_at hl 3 rfl) ?_
  refine lv_iconst (v := nI 2) hx hb dL_law_263 (by decide) ?_
  refine zi_add (v := nI (i_ + 2)) hx hb dL_law_264 (nI_add _ _) ?_
  refine zi_sld hx hb hX hbl hbA hS (show i_ + 2 < L by omega) (by omega) dL_law_265 ?_
  refine zcWi (As := [.int (xs (i_ + 1)), .int (xs (i_ + 2))]) (rest := [.int ((opPower m_ (xs (i_ + 1)) (xs (i_ + 2))).1)]) (wr := [0, 1, 2, 3, 4, 5, 6, 7, 8, 9, 10, 11, 12, 13, 14, 15, 16, 17, 18, 19, 20, 21, 22, 23, 24, 25, 26, 27, 28, 32, 33, 34, 35, 36, 39, 40, 41, 42, 43].filterMap (fun i => (LW ad bd cy ((opPower m_ (xs (i_ + 1)) (xs (i_ + 2))).2) s_ pl_ pd_ c_ rn_ z_ (mU m_) pl_ pd_ f_ u_ l_ s_.2 at_ iw_ tl_ is_ o1_ o2_ o3_ cc_ nx_ sb_ lc_)[i]?)) ⟨hx, hb, hml, hown, hts⟩ (c_X8_power l D cy H.size bd m_ pl_ at_ iw_ f_ u_ o1_ o2_ (xs (i_ + 1)) (xs (i_ + 2)) hw hX6 hU6 hM) (cwV 2 hts (zG_V zw_289 zw_290 zw_291 zw_5 zw_292) rfl rfl rfl zd_X8_power ⟨(Nat.le_of_ble_eq_true rfl), (Nat.le_of_ble_eq_true rfl)⟩) hK hP hD hS hA [29, 30, 31, 37, 38] [0, 1, 2, 3, 4, 5, 6, 7, 8, 9, 10, 11, 12, 13, 14, 15, 16, 17, 18, 19, 20, 21, 22, 23, 24, 25, 26, 27, 28, 32, 33, 34, 35, 36, 39, 40, 41, 42, 43] [0, 1, 2, 3, 4, 5, 6, 7, 8, 9, 10, 11, 12, 13, 14, 15, 16, 17, 18, 19, 20, 21, 22, 23, 24, 25, 26, 27, 28, 39, 40, 41, 29, 30, 31, 32, 33, 42, 43, 34, 35, 36, 37, 38] rfl (by decide) rfl (by decide) (by decide) (w2 := fun uq_ : (Nat → Nat) × (Nat → Nat) × (Nat → Nat) × (Nat → Nat) => LW ad bd cy ((opPower m_ (xs (i_ + 1)) (xs (i_ + 2))).2) s_ pl_ pd_ c_ rn_ z_ (mU ((opPower m_ (xs (i_ + 1)) (xs (i_ + 2))).2)) pl_ pd_ uq_.1 uq_.2.1 l_ s_.2 at_ iw_ tl_ is_ uq_.2.2.1 uq_.2.2.2 o3_ cc_ nx_ sb_ lc_) (fun _ => rfl) (by decide) rfl rfl rfl rfl hl.1 rfl (Nat.le_of_ble_eq_true rfl) dL_law_266 hcs (fun r266 u266 H locs h266 hP hD hS => ?_)
  obtain ⟨w_m, v_m, y1_m, y2_m⟩ := u266
  obtain ⟨hr266, h266⟩ := h266
  have hr266 : r266 = (opPower m_ (xs (i_ + 1)) (xs (i_ + 2))).1 := hr266
  have hm : MR (opPower m_ (xs (i_ + 1)) (xs (i_ + 2))).2 w_m v_m := h266
  subst hr266
  have hP : va_P D vwCl (LW ad bd cy ((opPower m_ (xs (i_ + 1)) (xs (i_ + 2))).2) s_ pl_ pd_ c_ rn_ z_ (mU ((opPower m_ (xs (i_ + 1)) (xs (i_ + 2))).2)) pl_ pd_ w_m v_m l_ s_.2 at_ iw_ tl_ is_ y1_m y2_m o3_ cc_ nx_ sb_ lc_) H := hP
  have hD : va_D zA (LW ad bd cy ((opPower m_ (xs (i_ + 1)) (xs (i_ + 2))).2) s_ pl_ pd_ c_ rn_ z_ (mU ((opPower m_ (xs (i_ + 1)) (xs (i_ + 2))).2)) pl_ pd_ w_m v_m l_ s_.2 at_ iw_ tl_ is_ y1_m y2_m o3_ cc_ nx_ sb_ lc_) := hD
  refine lv_icmp_eq (tgt := 897) hx hb dL_law_269 (by decide) (fun _ => ?_) (fun hne_ => absurd rfl hne_)
  exact next _ _ ⟨((opPower m_ (xs (i_ + 1)) (xs (i_ + 2))).2), s_, pl_, pd_, c_, rn_, z_, w_m, v_m, l_, at_, iw_, tl_, is_, y1_m, y2_m, o3_, cc_, nx_, sb_, lc_, ⟨(ok_power hok (xs (i_ + 1)) (xs (i_ + 2))), hm, hSl, hpdk, (rd_mono hrdk (by omega))⟩, hP, hD, hS⟩ ls hl
set_option maxHeartbeats 4000000 in
set_option maxRecDepth 100000 in
theorem law_trick {p : Program} {l : Launch} {e : Env} {s : State} {m : MethodId} {below : List Frame} {meth : Method} {c : Code} {b L : Nat} {xs : Nat → Int32} {D : va_G} {cy : Nat → ClassId} {ad bd : Nat → Nat} {zA : Nat → Prop} {cells slots : Nat} {Q : State → Prop} (hx : p.tables.exec = Jvm.exec) (hb : c.code = cL_law) (hml : c.maxLocals = 4) (hts : ∀ w ∈ w_law, w.before #[Value.ref b] s = true) (hown : s.vm.findClass RL = some m.cls) (hX : va_X b L xs s s.heap) (hbl : b < s.heap.size) (hbA : ¬ zA b) (hK : zK D cy s) (hA : ∀ q : Nat, s.heap.size ≤ q → zA q) (hcs : cells ≤ room_1.cells ∧ slots ≤ room_1.slots) (hL : L ≤ 2048) {i_ : Nat} (hi : i_ + 4 ≤ L) {H : Heap} {locs : List Loc} (inv : LInv D cy zA s.heap ad bd i_ H locs) (next : ∀ (H : Heap) (locs : List Loc), LInv D cy zA s.heap ad bd (i_ + 4) H locs → ∀ ls : Array Slot, lv_has ls 4 [(0, .ref b), (1, .ref (ad 0)), (2, .ref (bd 0)), (3, .int (nI i_))] → W p l e room_1 s m #[Value.ref b] below meth c H locs cells slots Q (F0 m 897 ls [])) : ∀ ls : Array Slot, lv_has ls 4 [(0, .ref b), (1, .ref (ad 0)), (2, .ref (bd 0)), (3, .int (nI i_))] → W p l e room_1 s m #[Value.ref b] below meth c H locs cells slots Q (F0 m 274 ls []) := by
  intro ls hl
  obtain ⟨m_, s_, pl_, pd_, c_, rn_, z_, f_, u_, l_, at_, iw_, tl_, is_, o1_, o2_, o3_, cc_, nx_, sb_, lc_, ⟨hok, hM, hSl, hpdk, hrdk⟩, hP, hD, hS⟩ := inv
  have hw := hok.1
  have hX6 := hok.2.1
  have hU6 := hok.2.2
  have hp := hpdk.1
  have hpd := hpdk.2
  have hrd := hrdk.1
  have hric2 := hrdk.2
  refine lv_aload_n hx hb dL_law_274 rfl (lv_at hl 1 rfl) ?_
  refine zcWi (As := []) (rest := []) (wr := [18, 19, 20, 21, 22, 23, 24, 25, 26, 27, 28, 29, 30, 31, 32, 33, 34, 35, 36, 37, 38, 39, 40, 41, 42, 43].filterMap (fun i => (LW ad bd cy m_ s_ pl_ pd_ c_ rn_ z_ (mU m_) pl_ pd_ f_ u_ l_ s_.2 at_ iw_ tl_ is_ o1_ o2_ o3_ cc_ nx_ sb_ lc_)[i]?)) ⟨hx, hb, hml, hown, hts⟩ (c_X7_trick l D cy H.size ad m_ pl_ hw hX6 hU6) (cwV 0 hts (zG_V zw_297 zw_298 zw_299 zw_2 zw_300) rfl rfl rfl zd_X7_trick ⟨(Nat.le_of_ble_eq_true rfl), (Nat.le_of_ble_eq_true rfl)⟩) hK hP hD hS hA [0, 1, 2, 3, 4, 5, 6, 7, 8, 9, 10, 11, 12, 13, 14, 15, 16, 17] [18, 19, 20, 21, 22, 23, 24, 25, 26, 27, 28, 29, 30, 31, 32, 33, 34, 35, 36, 37, 38, 39, 40, 41, 42, 43] [26, 27, 28, 29, 30, 31, 32, 33, 34, 35, 36, 37, 38, 39, 40, 41, 42, 43, 0, 1, 2, 3, 4, 5, 6, 7, 8, 9, 10, 11, 12, 13, 14, 15, 16, 17, 18, 19, 20, 21, 22, 23, 24, 25] rfl (by decide) rfl (by decide) (by decide) (w2 := fun uq_ : Unit => LW ad bd cy ((opTrick m_).2) s_ pl_ pd_ c_ rn_ z_ (mU m_) pl_ pd_ f_ u_ l_ s_.2 at_ iw_ tl_ is_ o1_ o2_ o3_ cc_ nx_ sb_ lc_) (fun _ => rfl) (by decide) rfl rfl rfl rfl hl.1 rfl (Nat.le_of_ble_eq_true rfl) dL_law_275 hcs (fun r275 u275 H locs h275 hP hD hS => ?_)
  obtain ⟨hr275, h275⟩ := h275
  have hr275 : r275 = (opTrick m_).1 := hr275
  subst hr275
  have hP : va_P D vwCl (LW ad bd cy ((opTrick m_).2) s_ pl_ pd_ c_ rn_ z_ (mU m_) pl_ pd_ f_ u_ l_ s_.2 at_ iw_ tl_ is_ o1_ o2_ o3_ cc_ nx_ sb_ lc_) H := hP
  have hD : va_D zA (LW ad bd cy ((opTrick m_).2) s_ pl_ pd_ c_ rn_ z_ (mU m_) pl_ pd_ f_ u_ l_ s_.2 at_ iw_ tl_ is_ o1_ o2_ o3_ cc_ nx_ sb_ lc_) := hD
  refine lv_aload_n hx hb dL_law_278 rfl (lv_at hl 2 rfl) ?_
  refine zcWi (As := []) (rest := [.int ((opTrick m_).1)]) (wr := [0, 1, 2, 3, 4, 5, 6, 7, 8, 9, 10, 11, 12, 13, 14, 15, 16, 17, 18, 19, 20, 21, 22, 23, 24, 25, 26, 27, 28, 32, 33, 34, 35, 36, 38, 39, 40, 41, 42, 43].filterMap (fun i => (LW ad bd cy ((opTrick m_).2) s_ pl_ pd_ c_ rn_ z_ (mU m_) pl_ pd_ f_ u_ l_ s_.2 at_ iw_ tl_ is_ o1_ o2_ o3_ cc_ nx_ sb_ lc_)[i]?)) ⟨hx, hb, hml, hown, hts⟩ (c_X8_trick l D cy H.size bd m_ pl_ at_ iw_ f_ u_ o1_ hw hX6 hU6 hM) (cwV 0 hts (zG_V zw_301 zw_302 zw_303 zw_5 zw_304) rfl rfl rfl zd_X8_trick ⟨(Nat.le_of_ble_eq_true rfl), (Nat.le_of_ble_eq_true rfl)⟩) hK hP hD hS hA [29, 30, 31, 37] [0, 1, 2, 3, 4, 5, 6, 7, 8, 9, 10, 11, 12, 13, 14, 15, 16, 17, 18, 19, 20, 21, 22, 23, 24, 25, 26, 27, 28, 32, 33, 34, 35, 36, 38, 39, 40, 41, 42, 43] [0, 1, 2, 3, 4, 5, 6, 7, 8, 9, 10, 11, 12, 13, 14, 15, 16, 17, 18, 19, 20, 21, 22, 23, 24, 25, 26, 27, 28, 40, 41, 42, 29, 30, 31, 32, 33, 43, 34, 35, 36, 37, 38, 39] rfl (by decide) rfl (by decide) (by decide) (w2 := fun uq_ : (Nat → Nat) × (Nat → Nat) × (Nat → Nat) => LW ad bd cy ((opTrick m_).2) s_ pl_ pd_ c_ rn_ z_ (mU ((opTrick m_).2)) pl_ pd_ uq_.1 uq_.2.1 l_ s_.2 at_ iw_ tl_ is_ uq_.2.2 o2_ o3_ cc_ nx_ sb_ lc_) (fun _ => rfl) (by decide) rfl rfl rfl rfl hl.1 rfl (Nat.le_of_ble_eq_true rfl) dL_law_279 hcs (fun r279 u279 H locs h279 hP hD hS => ?_)
  obtain ⟨w_m, v_m, y1_m⟩ := u279
  obtain ⟨hr279, h279⟩ := h279
  have hr279 : r279 = (opTrick m_).1 := hr279
  have hm : MR (opTrick m_).2 w_m v_m := h279
  subst hr279
  have hP : va_P D vwCl (LW ad bd cy ((opTrick m_).2) s_ pl_ pd_ c_ rn_ z_ (mU ((opTrick m_).2)) pl_ pd_ w_m v_m l_ s_.2 at_ iw_ tl_ is_ y1_m o2_ o3_ cc_ nx_ sb_ lc_) H := hP
  have hD : va_D zA (LW ad bd cy ((opTrick m_).2) s_ pl_ pd_ c_ rn_ z_ (mU ((opTrick m_).2)) pl_ pd_ w_m v_m l_ s_.2 at_ iw_ tl_ is_ y1_m o2_ o3_ cc_ nx_ sb_ lc_) := hD
  refine lv_icmp_eq (tgt := 897) hx hb dL_law_282 (by decide) (fun _ => ?_) (fun hne_ => absurd rfl hne_)
  exact next _ _ ⟨((opTrick m_).2), s_, pl_, pd_, c_, rn_, z_, w_m, v_m, l_, at_, iw_, tl_, is_, y1_m, o2_, o3_, cc_, nx_, sb_, lc_, ⟨(ok_trick hok), hm, hSl, hpdk, (rd_mono hrdk (by omega))⟩, hP, hD, hS⟩ ls hl
set_option maxHeartbeats 4000000 in
set_option maxRecDepth 100000 in
theorem law_drop {p : Program} {l : Launch} {e : Env} {s : State} {m : MethodId} {below : List Frame} {meth : Method} {c : Code} {b L : Nat} {xs : Nat → Int32} {D : va_G} {cy : Nat → ClassId} {ad bd : Nat → Nat} {zA : Nat → Prop} {cells slots : Nat} {Q : State → Prop} (hx : p.tables.exec = Jvm.exec) (hb : c.code = cL_law) (hml : c.maxLocals = 4) (hts : ∀ w ∈ w_law, w.before #[Value.ref b] s = true) (hown : s.vm.findClass RL = some m.cls) (hX : va_X b L xs s s.heap) (hbl : b < s.heap.size) (hbA : ¬ zA b) (hK : zK D cy s) (hA : ∀ q : Nat, s.heap.size ≤ q → zA q) (hcs : cells ≤ room_1.cells ∧ slots ≤ room_1.slots) (hL : L ≤ 2048) {i_ : Nat} (hi : i_ + 4 ≤ L) {H : Heap} {locs : List Loc} (inv : LInv D cy zA s.heap ad bd i_ H locs) (next : ∀ (H : Heap) (locs : List Loc), LInv D cy zA s.heap ad bd (i_ + 4) H locs → ∀ ls : Array Slot, lv_has ls 4 [(0, .ref b), (1, .ref (ad 0)), (2, .ref (bd 0)), (3, .int (nI i_))] → W p l e room_1 s m #[Value.ref b] below meth c H locs cells slots Q (F0 m 897 ls [])) : ∀ ls : Array Slot, lv_has ls 4 [(0, .ref b), (1, .ref (ad 0)), (2, .ref (bd 0)), (3, .int (nI i_))] → W p l e room_1 s m #[Value.ref b] below meth c H locs cells slots Q (F0 m 287 ls []) := by
  intro ls hl
  obtain ⟨m_, s_, pl_, pd_, c_, rn_, z_, f_, u_, l_, at_, iw_, tl_, is_, o1_, o2_, o3_, cc_, nx_, sb_, lc_, ⟨hok, hM, hSl, hpdk, hrdk⟩, hP, hD, hS⟩ := inv
  have hw := hok.1
  have hX6 := hok.2.1
  have hU6 := hok.2.2
  have hp := hpdk.1
  have hpd := hpdk.2
  have hrd := hrdk.1
  have hric2 := hrdk.2
  refine lv_aload_n hx hb dL_law_287 rfl (lv_at hl 1 rfl) ?_
  refine lv_aload_n hx hb dL_law_288 rfl (lv_at hl 0 rfl) ?_
  refine lv_iload_n hx hb dL_law_289 rfl (lv_at hl 3 rfl) ?_
  refine lv_iconst (v := nI 1) hx hb dL_law_290 (by decide) ?_
  refine zi_add (v := nI (i_ + 1)) hx hb dL_law_291 (nI_add _ _) ?_
  refine zi_sld hx hb hX hbl hbA hS (show i_ + 1 < L by omega) (by omega) dL_law_292 ?_
  refine zcWi (As := [.int (xs (i_ + 1))]) (rest := []) (wr := [18, 19, 20, 21, 22, 23, 24, 25, 26, 27, 28, 29, 30, 31, 32, 33, 34, 35, 36, 37, 38, 39, 40, 41, 42, 43].filterMap (fun i => (LW ad bd cy m_ s_ pl_ pd_ c_ rn_ z_ (mU m_) pl_ pd_ f_ u_ l_ s_.2 at_ iw_ tl_ is_ o1_ o2_ o3_ cc_ nx_ sb_ lc_)[i]?)) ⟨hx, hb, hml, hown, hts⟩ (c_X7_drop l D cy H.size ad m_ pl_ (xs (i_ + 1)) hw hX6 hU6) (cwV 1 hts (zG_V zw_305 zw_306 zw_307 zw_2 zw_308) rfl rfl rfl zd_X7_drop ⟨(Nat.le_of_ble_eq_true rfl), (Nat.le_of_ble_eq_true rfl)⟩) hK hP hD hS hA [0, 1, 2, 3, 4, 5, 6, 7, 8, 9, 10, 11, 12, 13, 14, 15, 16, 17] [18, 19, 20, 21, 22, 23, 24, 25, 26, 27, 28, 29, 30, 31, 32, 33, 34, 35, 36, 37, 38, 39, 40, 41, 42, 43] [26, 27, 28, 29, 30, 31, 32, 33, 34, 35, 36, 37, 38, 39, 40, 41, 42, 43, 0, 1, 2, 3, 4, 5, 6, 7, 8, 9, 10, 11, 12, 13, 14, 15, 16, 17, 18, 19, 20, 21, 22, 23, 24, 25] rfl (by decide) rfl (by decide) (by decide) (w2 := fun uq_ : Unit => LW ad bd cy ((opDrop m_ (xs (i_ + 1))).2) s_ pl_ pd_ c_ rn_ z_ (mU m_) pl_ pd_ f_ u_ l_ s_.2 at_ iw_ tl_ is_ o1_ o2_ o3_ cc_ nx_ sb_ lc_) (fun _ => rfl) (by decide) rfl rfl rfl rfl hl.1 rfl (Nat.le_of_ble_eq_true rfl) dL_law_293 hcs (fun r293 u293 H locs h293 hP hD hS => ?_)
  obtain ⟨hr293, h293⟩ := h293
  have hr293 : r293 = (opDrop m_ (xs (i_ + 1))).1 := hr293
  subst hr293
  have hP : va_P D vwCl (LW ad bd cy ((opDrop m_ (xs (i_ + 1))).2) s_ pl_ pd_ c_ rn_ z_ (mU m_) pl_ pd_ f_ u_ l_ s_.2 at_ iw_ tl_ is_ o1_ o2_ o3_ cc_ nx_ sb_ lc_) H := hP
  have hD : va_D zA (LW ad bd cy ((opDrop m_ (xs (i_ + 1))).2) s_ pl_ pd_ c_ rn_ z_ (mU m_) pl_ pd_ f_ u_ l_ s_.2 at_ iw_ tl_ is_ o1_ o2_ o3_ cc_ nx_ sb_ lc_) := hD
  refine lv_aload_n hx hb dL_law_296 rfl (lv_at hl 2 rfl) ?_
  refine lv_aload_n hx hb dL_law_297 rfl (lv_at hl 0 rfl) ?_
  refine lv_iload_n hx hb dL_law_298 rfl (lv_at hl 3 rfl) ?_
  refine lv_iconst (v := nI 1) hx hb dL_law_299 (by decide) ?_
  refine zi_add (v := nI (i_ + 1)) hx hb dL_law_300 (nI_add _ _) ?_
  refine zi_sld hx hb hX hbl hbA hS (show i_ + 1 < L by omega) (by omega) dL_law_301 ?_
  refine zcWi (As := [.int (xs (i_ + 1))]) (rest := [.int ((opDrop m_ (xs (i_ + 1))).1)]) (wr := [0, 1, 2, 3, 4, 5, 6, 7, 8, 9, 10, 11, 12, 13, 14, 15, 16, 17, 18, 19, 20, 21, 22, 23, 24, 25, 26, 27, 28, 32, 33, 34, 35, 36, 37, 38, 39, 40, 41, 42, 43].filterMap (fun i => (LW ad bd cy ((opDrop m_ (xs (i_ + 1))).2) s_ pl_ pd_ c_ rn_ z_ (mU m_) pl_ pd_ f_ u_ l_ s_.2 at_ iw_ tl_ is_ o1_ o2_ o3_ cc_ nx_ sb_ lc_)[i]?)) ⟨hx, hb, hml, hown, hts⟩ (c_X8_drop l D cy H.size bd m_ pl_ at_ iw_ f_ u_ (xs (i_ + 1)) hw hX6 hU6 hM) (cwV 1 hts (zG_V zw_313 zw_314 zw_315 zw_5 zw_316) rfl rfl rfl zd_X8_drop ⟨(Nat.le_of_ble_eq_true rfl), (Nat.le_of_ble_eq_true rfl)⟩) hK hP hD hS hA [29, 30, 31] [0, 1, 2, 3, 4, 5, 6, 7, 8, 9, 10, 11, 12, 13, 14, 15, 16, 17, 18, 19, 20, 21, 22, 23, 24, 25, 26, 27, 28, 32, 33, 34, 35, 36, 37, 38, 39, 40, 41, 42, 43] [0, 1, 2, 3, 4, 5, 6, 7, 8, 9, 10, 11, 12, 13, 14, 15, 16, 17, 18, 19, 20, 21, 22, 23, 24, 25, 26, 27, 28, 41, 42, 43, 29, 30, 31, 32, 33, 34, 35, 36, 37, 38, 39, 40] rfl (by decide) rfl (by decide) (by decide) (w2 := fun uq_ : (Nat → Nat) × (Nat → Nat) => LW ad bd cy ((opDrop m_ (xs (i_ + 1))).2) s_ pl_ pd_ c_ rn_ z_ (mU ((opDrop m_ (xs (i_ + 1))).2)) pl_ pd_ uq_.1 uq_.2 l_ s_.2 at_ iw_ tl_ is_ o1_ o2_ o3_ cc_ nx_ sb_ lc_) (fun _ => rfl) (by decide) rfl rfl rfl rfl hl.1 rfl (Nat.le_of_ble_eq_true rfl) dL_law_302 hcs (fun r302 u302 H locs h302 hP hD hS => ?_)
  obtain ⟨w_m, v_m⟩ := u302
  obtain ⟨hr302, h302⟩ := h302
  have hr302 : r302 = (opDrop m_ (xs (i_ + 1))).1 := hr302
  have hm : MR (opDrop m_ (xs (i_ + 1))).2 w_m v_m := h302
  subst hr302
  have hP : va_P D vwCl (LW ad bd cy ((opDrop m_ (xs (i_ + 1))).2) s_ pl_ pd_ c_ rn_ z_ (mU ((opDrop m_ (xs (i_ + 1))).2)) pl_ pd_ w_m v_m l_ s_.2 at_ iw_ tl_ is_ o1_ o2_ o3_ cc_ nx_ sb_ lc_) H := hP
  have hD : va_D zA (LW ad bd cy ((opDrop m_ (xs (i_ + 1))).2) s_ pl_ pd_ c_ rn_ z_ (mU ((opDrop m_ (xs (i_ + 1))).2)) pl_ pd_ w_m v_m l_ s_.2 at_ iw_ tl_ is_ o1_ o2_ o3_ cc_ nx_ sb_ lc_) := hD
  refine lv_icmp_eq (tgt := 897) hx hb dL_law_305 (by decide) (fun _ => ?_) (fun hne_ => absurd rfl hne_)
  exact next _ _ ⟨((opDrop m_ (xs (i_ + 1))).2), s_, pl_, pd_, c_, rn_, z_, w_m, v_m, l_, at_, iw_, tl_, is_, o1_, o2_, o3_, cc_, nx_, sb_, lc_, ⟨(ok_drop hok (xs (i_ + 1))), hm, hSl, hpdk, (rd_mono hrdk (by omega))⟩, hP, hD, hS⟩ ls hl
set_option maxHeartbeats 4000000 in
set_option maxRecDepth 100000 in
theorem law_play {p : Program} {l : Launch} {e : Env} {s : State} {m : MethodId} {below : List Frame} {meth : Method} {c : Code} {b L : Nat} {xs : Nat → Int32} {D : va_G} {cy : Nat → ClassId} {ad bd : Nat → Nat} {zA : Nat → Prop} {cells slots : Nat} {Q : State → Prop} (hx : p.tables.exec = Jvm.exec) (hb : c.code = cL_law) (hml : c.maxLocals = 4) (hts : ∀ w ∈ w_law, w.before #[Value.ref b] s = true) (hown : s.vm.findClass RL = some m.cls) (hX : va_X b L xs s s.heap) (hbl : b < s.heap.size) (hbA : ¬ zA b) (hK : zK D cy s) (hA : ∀ q : Nat, s.heap.size ≤ q → zA q) (hcs : cells ≤ room_1.cells ∧ slots ≤ room_1.slots) (hL : L ≤ 2048) {i_ : Nat} (hi : i_ + 4 ≤ L) {H : Heap} {locs : List Loc} (inv : LInv D cy zA s.heap ad bd i_ H locs) (next : ∀ (H : Heap) (locs : List Loc), LInv D cy zA s.heap ad bd (i_ + 4) H locs → ∀ ls : Array Slot, lv_has ls 4 [(0, .ref b), (1, .ref (ad 0)), (2, .ref (bd 0)), (3, .int (nI i_))] → W p l e room_1 s m #[Value.ref b] below meth c H locs cells slots Q (F0 m 897 ls [])) : ∀ ls : Array Slot, lv_has ls 4 [(0, .ref b), (1, .ref (ad 0)), (2, .ref (bd 0)), (3, .int (nI i_))] → W p l e room_1 s m #[Value.ref b] below meth c H locs cells slots Q (F0 m 310 ls []) := by
  intro ls hl
  obtain ⟨m_, s_, pl_, pd_, c_, rn_, z_, f_, u_, l_, at_, iw_, tl_, is_, o1_, o2_, o3_, cc_, nx_, sb_, lc_, ⟨hok, hM, hSl, hpdk, hrdk⟩, hP, hD, hS⟩ := inv
  have hw := hok.1
  have hX6 := hok.2.1
  have hU6 := hok.2.2
  have hp := hpdk.1
  have hpd := hpdk.2
  have hrd := hrdk.1
  have hric2 := hrdk.2
  refine lv_aload_n hx hb dL_law_310 rfl (lv_at hl 1 rfl) ?_
  refine lv_aload_n hx hb dL_law_311 rfl (lv_at hl 0 rfl) ?_
  refine lv_iload_n hx hb dL_law_312 rfl (lv_at hl 3 rfl) ?_
  refine lv_iconst (v := nI 1) hx hb dL_law_313 (by decide) ?_
  refine zi_add (v := nI (i_ + 1)) hx hb dL_law_314 (nI_add _ _) ?_
  refine zi_sld hx hb hX hbl hbA hS (show i_ + 1 < L by omega) (by omega) dL_law_315 ?_
  refine zcWi (As := [.int (xs (i_ + 1))]) (rest := []) (wr := [18, 19, 20, 21, 22, 23, 24, 25, 26, 27, 28, 29, 30, 31, 32, 33, 34, 35, 36, 37, 38, 39, 40, 41, 42, 43].filterMap (fun i => (LW ad bd cy m_ s_ pl_ pd_ c_ rn_ z_ (mU m_) pl_ pd_ f_ u_ l_ s_.2 at_ iw_ tl_ is_ o1_ o2_ o3_ cc_ nx_ sb_ lc_)[i]?)) ⟨hx, hb, hml, hown, hts⟩ (c_X7_play l D cy H.size ad m_ pl_ (xs (i_ + 1)) hw hX6 hU6) (cwV 1 hts (zG_V zw_317 zw_318 zw_319 zw_2 zw_320) rfl rfl rfl zd_X7_play ⟨(Nat.le_of_ble_eq_true rfl), (Nat.le_of_ble_eq_true rfl)⟩) hK hP hD hS hA [0, 1, 2, 3, 4, 5, 6, 7, 8, 9, 10, 11, 12, 13, 14, 15, 16, 17] [18, 19, 20, 21, 22, 23, 24, 25, 26, 27, 28, 29, 30, 31, 32, 33, 34, 35, 36, 37, 38, 39, 40, 41, 42, 43] [26, 27, 28, 29, 30, 31, 32, 33, 34, 35, 36, 37, 38, 39, 40, 41, 42, 43, 0, 1, 2, 3, 4, 5, 6, 7, 8, 9, 10, 11, 12, 13, 14, 15, 16, 17, 18, 19, 20, 21, 22, 23, 24, 25] rfl (by decide) rfl (by decide) (by decide) (w2 := fun uq_ : Unit => LW ad bd cy ((opPlay m_ (xs (i_ + 1))).2) s_ pl_ pd_ c_ rn_ z_ (mU m_) pl_ pd_ f_ u_ l_ s_.2 at_ iw_ tl_ is_ o1_ o2_ o3_ cc_ nx_ sb_ lc_) (fun _ => rfl) (by decide) rfl rfl rfl rfl hl.1 rfl (Nat.le_of_ble_eq_true rfl) dL_law_316 hcs (fun r316 u316 H locs h316 hP hD hS => ?_)
  obtain ⟨hr316, h316⟩ := h316
  have hr316 : r316 = (opPlay m_ (xs (i_ + 1))).1 := hr316
  subst hr316
  have hP : va_P D vwCl (LW ad bd cy ((opPlay m_ (xs (i_ + 1))).2) s_ pl_ pd_ c_ rn_ z_ (mU m_) pl_ pd_ f_ u_ l_ s_.2 at_ iw_ tl_ is_ o1_ o2_ o3_ cc_ nx_ sb_ lc_) H := hP
  have hD : va_D zA (LW ad bd cy ((opPlay m_ (xs (i_ + 1))).2) s_ pl_ pd_ c_ rn_ z_ (mU m_) pl_ pd_ f_ u_ l_ s_.2 at_ iw_ tl_ is_ o1_ o2_ o3_ cc_ nx_ sb_ lc_) := hD
  refine lv_aload_n hx hb dL_law_319 rfl (lv_at hl 2 rfl) ?_
  refine lv_aload_n hx hb dL_law_320 rfl (lv_at hl 0 rfl) ?_
  refine lv_iload_n hx hb dL_law_321 rfl (lv_at hl 3 rfl) ?_
  refine lv_iconst (v := nI 1) hx hb dL_law_322 (by decide) ?_
  refine zi_add (v := nI (i_ + 1)) hx hb dL_law_323 (nI_add _ _) ?_
  refine zi_sld hx hb hX hbl hbA hS (show i_ + 1 < L by omega) (by omega) dL_law_324 ?_
  refine zcWi (As := [.int (xs (i_ + 1))]) (rest := [.int ((opPlay m_ (xs (i_ + 1))).1)]) (wr := [0, 1, 2, 3, 4, 5, 6, 7, 8, 9, 10, 11, 12, 13, 14, 15, 16, 17, 18, 19, 20, 21, 22, 23, 24, 25, 26, 27, 28, 32, 33, 34, 35, 36, 38, 39, 40, 42, 43].filterMap (fun i => (LW ad bd cy ((opPlay m_ (xs (i_ + 1))).2) s_ pl_ pd_ c_ rn_ z_ (mU m_) pl_ pd_ f_ u_ l_ s_.2 at_ iw_ tl_ is_ o1_ o2_ o3_ cc_ nx_ sb_ lc_)[i]?)) ⟨hx, hb, hml, hown, hts⟩ (c_X8_play l D cy H.size bd m_ pl_ at_ iw_ f_ u_ o1_ nx_ (xs (i_ + 1)) hw hX6 hU6 hM) (cwV 1 hts (zG_V zw_328 zw_329 zw_330 zw_5 zw_331) rfl rfl rfl zd_X8_play ⟨(Nat.le_of_ble_eq_true rfl), (Nat.le_of_ble_eq_true rfl)⟩) hK hP hD hS hA [29, 30, 31, 37, 41] [0, 1, 2, 3, 4, 5, 6, 7, 8, 9, 10, 11, 12, 13, 14, 15, 16, 17, 18, 19, 20, 21, 22, 23, 24, 25, 26, 27, 28, 32, 33, 34, 35, 36, 38, 39, 40, 42, 43] [0, 1, 2, 3, 4, 5, 6, 7, 8, 9, 10, 11, 12, 13, 14, 15, 16, 17, 18, 19, 20, 21, 22, 23, 24, 25, 26, 27, 28, 39, 40, 41, 29, 30, 31, 32, 33, 42, 34, 35, 36, 43, 37, 38] rfl (by decide) rfl (by decide) (by decide) (w2 := fun uq_ : (Nat → Nat) × (Nat → Nat) × (Nat → Nat) × (Nat → Nat) => LW ad bd cy ((opPlay m_ (xs (i_ + 1))).2) s_ pl_ pd_ c_ rn_ z_ (mU ((opPlay m_ (xs (i_ + 1))).2)) pl_ pd_ uq_.1 uq_.2.1 l_ s_.2 at_ iw_ tl_ is_ uq_.2.2.1 o2_ o3_ cc_ uq_.2.2.2 sb_ lc_) (fun _ => rfl) (by decide) rfl rfl rfl rfl hl.1 rfl (Nat.le_of_ble_eq_true rfl) dL_law_325 hcs (fun r325 u325 H locs h325 hP hD hS => ?_)
  obtain ⟨w_m, v_m, y1_m, yx_m⟩ := u325
  obtain ⟨hr325, h325⟩ := h325
  have hr325 : r325 = (opPlay m_ (xs (i_ + 1))).1 := hr325
  have hm : MR (opPlay m_ (xs (i_ + 1))).2 w_m v_m := h325
  subst hr325
  have hP : va_P D vwCl (LW ad bd cy ((opPlay m_ (xs (i_ + 1))).2) s_ pl_ pd_ c_ rn_ z_ (mU ((opPlay m_ (xs (i_ + 1))).2)) pl_ pd_ w_m v_m l_ s_.2 at_ iw_ tl_ is_ y1_m o2_ o3_ cc_ yx_m sb_ lc_) H := hP
  have hD : va_D zA (LW ad bd cy ((opPlay m_ (xs (i_ + 1))).2) s_ pl_ pd_ c_ rn_ z_ (mU ((opPlay m_ (xs (i_ + 1))).2)) pl_ pd_ w_m v_m l_ s_.2 at_ iw_ tl_ is_ y1_m o2_ o3_ cc_ yx_m sb_ lc_) := hD
  refine lv_icmp_eq (tgt := 897) hx hb dL_law_328 (by decide) (fun _ => ?_) (fun hne_ => absurd rfl hne_)
  exact next _ _ ⟨((opPlay m_ (xs (i_ + 1))).2), s_, pl_, pd_, c_, rn_, z_, w_m, v_m, l_, at_, iw_, tl_, is_, y1_m, o2_, o3_, cc_, yx_m, sb_, lc_, ⟨(ok_play hok (xs (i_ + 1))), hm, hSl, hpdk, (rd_mono hrdk (by omega))⟩, hP, hD, hS⟩ ls hl
set_option maxHeartbeats 4000000 in
set_option maxRecDepth 100000 in
theorem law_cut {p : Program} {l : Launch} {e : Env} {s : State} {m : MethodId} {below : List Frame} {meth : Method} {c : Code} {b L : Nat} {xs : Nat → Int32} {D : va_G} {cy : Nat → ClassId} {ad bd : Nat → Nat} {zA : Nat → Prop} {cells slots : Nat} {Q : State → Prop} (hx : p.tables.exec = Jvm.exec) (hb : c.code = cL_law) (hml : c.maxLocals = 4) (hts : ∀ w ∈ w_law, w.before #[Value.ref b] s = true) (hown : s.vm.findClass RL = some m.cls) (hX : va_X b L xs s s.heap) (hbl : b < s.heap.size) (hbA : ¬ zA b) (hK : zK D cy s) (hA : ∀ q : Nat, s.heap.size ≤ q → zA q) (hcs : cells ≤ room_1.cells ∧ slots ≤ room_1.slots) (hL : L ≤ 2048) {i_ : Nat} (hi : i_ + 4 ≤ L) {H : Heap} {locs : List Loc} (inv : LInv D cy zA s.heap ad bd i_ H locs) (next : ∀ (H : Heap) (locs : List Loc), LInv D cy zA s.heap ad bd (i_ + 4) H locs → ∀ ls : Array Slot, lv_has ls 4 [(0, .ref b), (1, .ref (ad 0)), (2, .ref (bd 0)), (3, .int (nI i_))] → W p l e room_1 s m #[Value.ref b] below meth c H locs cells slots Q (F0 m 897 ls [])) : ∀ ls : Array Slot, lv_has ls 4 [(0, .ref b), (1, .ref (ad 0)), (2, .ref (bd 0)), (3, .int (nI i_))] → W p l e room_1 s m #[Value.ref b] below meth c H locs cells slots Q (F0 m 333 ls []) := by
  intro ls hl
  obtain ⟨m_, s_, pl_, pd_, c_, rn_, z_, f_, u_, l_, at_, iw_, tl_, is_, o1_, o2_, o3_, cc_, nx_, sb_, lc_, ⟨hok, hM, hSl, hpdk, hrdk⟩, hP, hD, hS⟩ := inv
  have hw := hok.1
  have hX6 := hok.2.1
  have hU6 := hok.2.2
  have hp := hpdk.1
  have hpd := hpdk.2
  have hrd := hrdk.1
  have hric2 := hrdk.2
  refine lv_aload_n hx hb dL_law_333 rfl (lv_at hl 1 rfl) ?_
  refine lv_aload_n hx hb dL_law_334 rfl (lv_at hl 0 rfl) ?_
  refine lv_iload_n hx hb dL_law_335 rfl (lv_at hl 3 rfl) ?_
  refine lv_iconst (v := nI 1) hx hb dL_law_336 (by decide) ?_
  refine zi_add (v := nI (i_ + 1)) hx hb dL_law_337 (nI_add _ _) ?_
  refine zi_sld hx hb hX hbl hbA hS (show i_ + 1 < L by omega) (by omega) dL_law_338 ?_
  refine zcWi (As := [.int (xs (i_ + 1))]) (rest := []) (wr := [18, 19, 20, 21, 22, 23, 24, 25, 26, 27, 28, 29, 30, 31, 32, 33, 34, 35, 36, 37, 38, 39, 40, 41, 42, 43].filterMap (fun i => (LW ad bd cy m_ s_ pl_ pd_ c_ rn_ z_ (mU m_) pl_ pd_ f_ u_ l_ s_.2 at_ iw_ tl_ is_ o1_ o2_ o3_ cc_ nx_ sb_ lc_)[i]?)) ⟨hx, hb, hml, hown, hts⟩ (c_X7_cut l D cy H.size ad m_ pl_ (xs (i_ + 1)) hw hX6 hU6) (cwV 1 hts (zG_V zw_336 zw_337 zw_338 zw_2 zw_339) rfl rfl rfl zd_X7_cut ⟨(Nat.le_of_ble_eq_true rfl), (Nat.le_of_ble_eq_true rfl)⟩) hK hP hD hS hA [0, 1, 2, 3, 4, 5, 6, 7, 8, 9, 10, 11, 12, 13, 14, 15, 16, 17] [18, 19, 20, 21, 22, 23, 24, 25, 26, 27, 28, 29, 30, 31, 32, 33, 34, 35, 36, 37, 38, 39, 40, 41, 42, 43] [26, 27, 28, 29, 30, 31, 32, 33, 34, 35, 36, 37, 38, 39, 40, 41, 42, 43, 0, 1, 2, 3, 4, 5, 6, 7, 8, 9, 10, 11, 12, 13, 14, 15, 16, 17, 18, 19, 20, 21, 22, 23, 24, 25] rfl (by decide) rfl (by decide) (by decide) (w2 := fun uq_ : Unit => LW ad bd cy ((opCut m_ (xs (i_ + 1))).2) s_ pl_ pd_ c_ rn_ z_ (mU m_) pl_ pd_ f_ u_ l_ s_.2 at_ iw_ tl_ is_ o1_ o2_ o3_ cc_ nx_ sb_ lc_) (fun _ => rfl) (by decide) rfl rfl rfl rfl hl.1 rfl (Nat.le_of_ble_eq_true rfl) dL_law_339 hcs (fun r339 u339 H locs h339 hP hD hS => ?_)
  obtain ⟨hr339, h339⟩ := h339
  have hr339 : r339 = (opCut m_ (xs (i_ + 1))).1 := hr339
  subst hr339
  have hP : va_P D vwCl (LW ad bd cy ((opCut m_ (xs (i_ + 1))).2) s_ pl_ pd_ c_ rn_ z_ (mU m_) pl_ pd_ f_ u_ l_ s_.2 at_ iw_ tl_ is_ o1_ o2_ o3_ cc_ nx_ sb_ lc_) H := hP
  have hD : va_D zA (LW ad bd cy ((opCut m_ (xs (i_ + 1))).2) s_ pl_ pd_ c_ rn_ z_ (mU m_) pl_ pd_ f_ u_ l_ s_.2 at_ iw_ tl_ is_ o1_ o2_ o3_ cc_ nx_ sb_ lc_) := hD
  refine lv_aload_n hx hb dL_law_342 rfl (lv_at hl 2 rfl) ?_
  refine lv_aload_n hx hb dL_law_343 rfl (lv_at hl 0 rfl) ?_
  refine lv_iload_n hx hb dL_law_344 rfl (lv_at hl 3 rfl) ?_
  refine lv_iconst (v := nI 1) hx hb dL_law_345 (by decide) ?_
  refine zi_add (v := nI (i_ + 1)) hx hb dL_law_346 (nI_add _ _) ?_
  refine zi_sld hx hb hX hbl hbA hS (show i_ + 1 < L by omega) (by omega) dL_law_347 ?_
  refine zcWi (As := [.int (xs (i_ + 1))]) (rest := [.int ((opCut m_ (xs (i_ + 1))).1)]) (wr := [0, 1, 2, 3, 4, 5, 6, 7, 8, 9, 10, 11, 12, 13, 14, 15, 16, 17, 18, 19, 20, 21, 22, 23, 24, 25, 26, 27, 28, 32, 33, 34, 35, 36, 38, 39, 40, 42, 43].filterMap (fun i => (LW ad bd cy ((opCut m_ (xs (i_ + 1))).2) s_ pl_ pd_ c_ rn_ z_ (mU m_) pl_ pd_ f_ u_ l_ s_.2 at_ iw_ tl_ is_ o1_ o2_ o3_ cc_ nx_ sb_ lc_)[i]?)) ⟨hx, hb, hml, hown, hts⟩ (c_X8_cut l D cy H.size bd m_ pl_ at_ iw_ f_ u_ o1_ nx_ (xs (i_ + 1)) hw hX6 hU6 hM) (cwV 1 hts (zG_V zw_353 zw_354 zw_355 zw_5 zw_356) rfl rfl rfl zd_X8_cut ⟨(Nat.le_of_ble_eq_true rfl), (Nat.le_of_ble_eq_true rfl)⟩) hK hP hD hS hA [29, 30, 31, 37, 41] [0, 1, 2, 3, 4, 5, 6, 7, 8, 9, 10, 11, 12, 13, 14, 15, 16, 17, 18, 19, 20, 21, 22, 23, 24, 25, 26, 27, 28, 32, 33, 34, 35, 36, 38, 39, 40, 42, 43] [0, 1, 2, 3, 4, 5, 6, 7, 8, 9, 10, 11, 12, 13, 14, 15, 16, 17, 18, 19, 20, 21, 22, 23, 24, 25, 26, 27, 28, 39, 40, 41, 29, 30, 31, 32, 33, 42, 34, 35, 36, 43, 37, 38] rfl (by decide) rfl (by decide) (by decide) (w2 := fun uq_ : (Nat → Nat) × (Nat → Nat) × (Nat → Nat) × (Nat → Nat) => LW ad bd cy ((opCut m_ (xs (i_ + 1))).2) s_ pl_ pd_ c_ rn_ z_ (mU ((opCut m_ (xs (i_ + 1))).2)) pl_ pd_ uq_.1 uq_.2.1 l_ s_.2 at_ iw_ tl_ is_ uq_.2.2.1 o2_ o3_ cc_ uq_.2.2.2 sb_ lc_) (fun _ => rfl) (by decide) rfl rfl rfl rfl hl.1 rfl (Nat.le_of_ble_eq_true rfl) dL_law_348 hcs (fun r348 u348 H locs h348 hP hD hS => ?_)
  obtain ⟨w_m, v_m, y1_m, yx_m⟩ := u348
  obtain ⟨hr348, h348⟩ := h348
  have hr348 : r348 = (opCut m_ (xs (i_ + 1))).1 := hr348
  have hm : MR (opCut m_ (xs (i_ + 1))).2 w_m v_m := h348
  subst hr348
  have hP : va_P D vwCl (LW ad bd cy ((opCut m_ (xs (i_ + 1))).2) s_ pl_ pd_ c_ rn_ z_ (mU ((opCut m_ (xs (i_ + 1))).2)) pl_ pd_ w_m v_m l_ s_.2 at_ iw_ tl_ is_ y1_m o2_ o3_ cc_ yx_m sb_ lc_) H := hP
  have hD : va_D zA (LW ad bd cy ((opCut m_ (xs (i_ + 1))).2) s_ pl_ pd_ c_ rn_ z_ (mU ((opCut m_ (xs (i_ + 1))).2)) pl_ pd_ w_m v_m l_ s_.2 at_ iw_ tl_ is_ y1_m o2_ o3_ cc_ yx_m sb_ lc_) := hD
  refine lv_icmp_eq (tgt := 897) hx hb dL_law_351 (by decide) (fun _ => ?_) (fun hne_ => absurd rfl hne_)
  exact next _ _ ⟨((opCut m_ (xs (i_ + 1))).2), s_, pl_, pd_, c_, rn_, z_, w_m, v_m, l_, at_, iw_, tl_, is_, y1_m, o2_, o3_, cc_, yx_m, sb_, lc_, ⟨(ok_cut hok (xs (i_ + 1))), hm, hSl, hpdk, (rd_mono hrdk (by omega))⟩, hP, hD, hS⟩ ls hl

/-! the law calls its cell -/
section
variable {p : Program} {l : Launch} {e : Env} {R rm : Room} {s : State} {m : MethodId} {args : Array Value} {below : List Frame} {meth : Method} {c : Code} {H H0 : Heap} {locs : List Loc} {cells slots pc : Nat} {ls : Array Slot} {rest st0 As : List Value} {Q : State → Prop} {D : va_G} {cy : Nat → ClassId} {w0 ws wr : va_W} {b : Nat} {y : MethodName} {bytes cc : ByteArray} {maxL nL n index ci : Nat} {ret : Option FieldType} {wsy Ts : List Cond} {own C : String} {fs : List Value} {q : vw_C} {A0 : Nat → Prop}
theorem zcSx {L : Nat} {xs : Nat → Int32} {post : Int32 → Prop} (S : CallFix p m c cc nL s args Ts own) (hM : Met l y wsy rm (zPx b L xs As) (vp_Si post) 0 0 (fun _ => False)) (cw : CallB R s args own index y bytes maxL ret wsy rm 0 0 n ∧ (Cond.static y).before args s = true) (hX : va_X b L xs s H) (hn : As.length = n) (hsz : ls.size = nL) (hst : st0 = As.reverse ++ rest) (hW : (rest.map fun v => v.category).sum ≤ 8) (hdg : decode cc pc = .ok (.invokestatic index, 3)) (hf : cells ≤ R.cells ∧ slots ≤ R.slots)
    (kk : ∀ r : Int32, post r → W p l e R s m args below meth c H locs cells slots Q (F0 m (pc + 3) ls (.int r :: rest))) : W p l e R s m args below meth c H locs cells slots Q (F0 m pc ls st0) := by
  exact vp_callSi (va_Run.run (va_runS (As := As) (rest := rest) S hM cw ⟨zPx_blind, fun U hU hW => ⟨rfl, by show va_X b L xs U U.heap; rw [hU]; exact va_X.moved hW.alike hX⟩⟩ rfl hn hsz hst (lv_room hW) hdg hf)) kk
theorem zcSWi {S : Type} {post : Int32 → S → Prop} {w1 : S → va_W} (S0 : CallFix p m c cc nL s args Ts own) (hM : Met l y wsy rm (zPw D cy w0 H.size As) (va_Qi post (fun u t => va_P D vwCl (w1 u) t.heap ∧ va_D (va_A w0 H.size) (w1 u)) (va_A w0 H.size)) 0 0 (va_A w0 H.size)) (cw : CallB R s args own index y bytes maxL ret wsy rm 0 0 n ∧ (Cond.static y).before args s = true) (hK : zK D cy s) (hP : va_P D vwCl ws H) (hD : va_D A0 ws) (hS : va_S A0 H0 H locs) (hA : ∀ q : Nat, H0.size ≤ q → A0 q) (isC isR perm : List Nat) (hC : isC.map (fun i => ws[i]?) = w0.map some) (hnC : va_nd isC = true) (hR : isR.map (fun i => ws[i]?) = wr.map some) (hnR : va_nd isR = true) (hdis : ∀ i ∈ isR, i ∉ isC) {w2 : S → va_W} (hpm : ∀ u : S, perm.map (fun i => (wr ++ w1 u)[i]?) = (w2 u).map some) (hnP : va_nd perm = true) (hn : As.length = n) (hsz : ls.size = nL) (hst : st0 = As.reverse ++ rest) (hW : (rest.map fun v => v.category).sum ≤ 8) (hdg : decode cc pc = .ok (.invokestatic index, 3)) (hf : cells ≤ R.cells ∧ slots ≤ R.slots)
    (kk : ∀ (r : Int32) (u : S) (H1 : Heap) (locs1 : List Loc), post r u → va_P D vwCl (w2 u) H1 → va_D A0 (w2 u) → va_S A0 H0 H1 locs1 → W p l e R s m args below meth c H1 locs1 cells slots Q (F0 m (pc + 3) ls (.int r :: rest))) : W p l e R s m args below meth c H locs cells slots Q (F0 m pc ls st0) := by
  have hPc := hP.sub (ws' := w0) isC (zz_fm hC)
  have hDc := hD.sub (ws' := w0) isC hnC hC
  have hFc := va_free (wc := w0) hD hS hA isC hC
  refine va_calli (va_runS (As := As) (rest := rest) S0 hM cw ⟨zPw_blind, fun U hU hW => ⟨rfl, by rw [hU], by rw [hU]; exact hPc, zK_warm hW hK, hDc.weaken (fun _ _ _ _ => trivial)⟩⟩ rfl hn hsz hst (lv_room hW) hdg hf) hS (fun q _ h => hFc q h) hFc (fun r u t H1 locs1 ht hvm hw hB hz1 hk1 hS1 => ?_)
  obtain ⟨hP1, hD1⟩ := hB
  rw [ht] at hP1
  obtain ⟨hP2, hD2⟩ := va_join hP hD isC isR hC hR hnR hdis hk1 hFc hP1 hD1
  exact kk r u H1 locs1 hw (hP2.sub perm (zz_fm (hpm u))) (hD2.sub perm hnP (hpm u)) hS1
end
theorem acts_at {f : MT → Int32 × MT} {t : TV} {r : Int32} {q : Option TV} (h1 : ∀ z : ZT, f (t, z) = (r, apM (t, z) q)) {m : MT} (hm : m.1 = t) : f m = (r, apM m q) := by
  subst hm
  exact h1 m.2
theorem sl_first {m : MT} {s : SL} (hw : TVok m.1) : SlK (opSave m s (nI 0)).2 := by
  have e : opSave m s (nI 0) = (nI (mC m), (upT s.1 0 m.1, uB1 s.2 0 true)) := if_pos (show (0 : Int) ≤ (nI 0).toInt ∧ (nI 0).toInt < 2 by decide)
  rw [e]
  exact ⟨rfl, hw⟩

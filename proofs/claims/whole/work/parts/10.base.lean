/-! base: the worlds' premises, calls by kind (a callee that changes nothing, one that changes its cells, one that makes an object), small steps of the pure texts -/
def nw_ok (U : State) : Prop := va_Nw (.methodLinkNest RX2 23 yX3_sumOfFloors "SternDesk") U ∧ va_Nw (.methodLinkNest RX3 9 yX0_init "SternDesk") U
def gK (G : va_G) (cI : ClassId) (U : State) : Prop := va_K G vwCl [(cI, .int)] U ∧ nw_ok U
theorem gK.moved {G : va_G} {cI : ClassId} {s U : State} (hW : s.WarmedH U.vm) (h : gK G cI s) : gK G cI U := ⟨va_K.moved hW.alike h.1, va_Nw.warmM hW h.2.1, va_Nw.warmM hW h.2.2⟩
def gR (G : va_G) (cI : ClassId) (ws : va_W) (sz : Nat) (U : State) : Prop := U.heap.size = sz ∧ va_P G vwCl ws U.heap ∧ gK G cI U
def gM (G : va_G) (cI : ClassId) (ws : va_W) (sz : Nat) (U : State) : Prop := U.heap.size = sz ∧ va_P G vwCl ws U.heap ∧ gK G cI U ∧ va_D (fun _ => True) ws
theorem gK.calling {G : va_G} {cI : ClassId} {U : State} {g : JFrame} {mk : MethodId} {a : Array Value} (h : gK G cI U) : gK G cI (U.calling g mk a) := ⟨va_K.moved (u := U) (U := U.calling g mk a) (Vm.Alike.refl U.vm) h.1, va_Nw.same rfl (show U.vm = (U.calling g mk a).vm from rfl) h.2.1, va_Nw.same rfl (show U.vm = (U.calling g mk a).vm from rfl) h.2.2⟩
theorem gR.blind {G : va_G} {cI : ClassId} {ws : va_W} {sz : Nat} {av : List Value} : FrameBlind (va_Pc av (gR G cI ws sz)) := fun _ _ _ _ q => ⟨q.1, q.2.1, q.2.2.1, q.2.2.2.calling⟩
theorem gM.blind {G : va_G} {cI : ClassId} {ws : va_W} {sz : Nat} {av : List Value} : FrameBlind (va_Pc av (gM G cI ws sz)) := fun _ _ _ _ q => ⟨q.1, q.2.1, q.2.2.1, q.2.2.2.1.calling, q.2.2.2.2⟩
/-- contracts: nothing old changes, the answer is v -/
abbrev mRi (l : Launch) (y : MethodName) (ws : List Cond) (rm : Room) (av : List Value) (G : va_G) (cI : ClassId) (wc : va_W) (sz : Nat) (v : Int32) : Prop := Met l y ws rm (va_Pc av (gR G cI wc sz)) (va_Qi (fun (r : Int32) (_ : Unit) => r = v) (fun _ _ => True) (va_A [] sz)) 0 0 (va_A [] sz)
abbrev mRl (l : Launch) (y : MethodName) (ws : List Cond) (rm : Room) (av : List Value) (G : va_G) (cI : ClassId) (wc : va_W) (sz : Nat) (v : Int64) : Prop := Met l y ws rm (va_Pc av (gR G cI wc sz)) (va_Ql (fun (r : Int64) (_ : Unit) => r = v) (fun _ _ => True) (va_A [] sz)) 0 0 (va_A [] sz)
/-- .. a new object comes back, nothing old changes -/
abbrev mNr (l : Launch) (y : MethodName) (ws : List Cond) (rm : Room) (av : List Value) (G : va_G) (cI : ClassId) (wc : va_W) (sz : Nat) (ce : va_E) (mc ms : Nat) : Prop := Met l y ws rm (va_Pc av (gM G cI wc sz)) (va_Qr (fun (_ : Unit) => True) (fun _ a t => va_P G vwCl (wc ++ [(a, ce)]) t.heap ∧ va_D (va_A wc sz) (wc ++ [(a, ce)])) (va_A wc sz)) mc ms (va_A wc sz)
/-- .. the cells wc become w1 -/
abbrev mMv (l : Launch) (y : MethodName) (ws : List Cond) (rm : Room) (av : List Value) (G : va_G) (cI : ClassId) (wc : va_W) (sz : Nat) (w1 : va_W) (mc ms : Nat) : Prop := Met l y ws rm (va_Pc av (gM G cI wc sz)) (va_Qv (fun (_ : Unit) => True) (fun _ t => va_P G vwCl w1 t.heap ∧ va_D (va_A wc sz) w1) (va_A wc sz)) mc ms (va_A wc sz)
abbrev mMi (l : Launch) (y : MethodName) (ws : List Cond) (rm : Room) (av : List Value) (G : va_G) (cI : ClassId) (wc : va_W) (sz : Nat) (v : Int32) (w1 : va_W) (mc ms : Nat) : Prop := Met l y ws rm (va_Pc av (gM G cI wc sz)) (va_Qi (fun (r : Int32) (_ : Unit) => r = v) (fun _ t => va_P G vwCl w1 t.heap ∧ va_D (va_A wc sz) w1) (va_A wc sz)) mc ms (va_A wc sz)
abbrev mMl (l : Launch) (y : MethodName) (ws : List Cond) (rm : Room) (av : List Value) (G : va_G) (cI : ClassId) (wc : va_W) (sz : Nat) (v : Int64) (w1 : va_W) (mc ms : Nat) : Prop := Met l y ws rm (va_Pc av (gM G cI wc sz)) (va_Ql (fun (r : Int64) (_ : Unit) => r = v) (fun _ t => va_P G vwCl w1 t.heap ∧ va_D (va_A wc sz) w1) (va_A wc sz)) mc ms (va_A wc sz)
theorem nA {sz q : Nat} (h : va_A [] sz q) : sz ≤ q := h.elim (fun ⟨_, _, hh⟩ => by simp at hh) id
theorem keptP {G : va_G} {wA : va_W} {H H1 : Heap} (hP : va_P G vwCl wA H) (hk : ∀ q : Nat, q < H.size → ¬ va_A [] H.size q → H1[q]? = H[q]?) : va_P G vwCl wA H1 := hP.kept (fun k q hq => hk _ (hP k q hq).lt (fun h => absurd (hP k q hq).lt (Nat.not_lt.mpr (nA h))))
theorem va_rng (w : va_W) : (List.range w.length).map (fun i => w[i]?) = w.map some := by
  apply List.ext_getElem
  · simp
  · intro i h1 h2
    simp at h1
    simp [h1]
theorem va_nd_of : ∀ l : List Nat, l.Nodup → va_nd l = true
  | [], _ => rfl
  | a :: l, h => by
    simp only [va_nd, Bool.and_eq_true, decide_eq_true_eq]
    exact ⟨(List.nodup_cons.mp h).1, va_nd_of l (List.nodup_cons.mp h).2⟩
theorem va_ndrng (n : Nat) : va_nd (List.range n) = true := va_nd_of _ List.nodup_range
section CallsG
variable {p : Program} {l : Launch} {e : Env} {R : Room} {s : State} {m : MethodId} {args : Array Value} {below : List Frame} {meth : Method} {c : Code} {H H0 : Heap} {locs : List Loc} {cells slots : Nat} {Q : State → Prop} {A0 : Nat → Prop} {pc : Nat} {ls : Array Slot} {cc : ByteArray} {nL : Nat} {Ts : List Cond} {own C : String} {G : va_G} {cI : ClassId} {wA wc wr w1 : va_W} {b : Nat} {As rest st0 : List Value} {index maxL n mc ms : Nat} {y : MethodName} {bytes : ByteArray} {ret : Option FieldType} {ws : List Cond} {rm : Room} {ci : Nat} {fs : List Value} {T : u_T} {N : Nat}
theorem roA (hS : va_S A0 H0 H locs) (hA : ∀ q, H0.size ≤ q → A0 q) : ∀ q, va_A [] H.size q → A0 q := fun q h => hA q (Nat.le_trans hS.1 (nA h))
theorem roVi {v : Int32} (S : CallFix p m c cc nL s args Ts own) (hM : mRi l y ws rm (.ref b :: As) G cI wc H.size v) (cw : CallW R s args own C index y bytes maxL ret ws rm 0 0 n) (hK : gK G cI s) (hP : va_P G vwCl wA H) (hPc : va_P G vwCl wc H) (he : wc[0]? = some (b, .inr (ci, fs))) (hc : vwCl[ci]? = some (C, T, N)) (hn : As.length = n) (hsize : ls.size = nL) (hst : st0 = As.reverse ++ .ref b :: rest) (hW : (rest.map fun v => v.category).sum ≤ 8) (hdg : decode cc pc = .ok (.invokevirtual index, 3)) (hf : cells ≤ R.cells ∧ slots ≤ R.slots) (hS : va_S A0 H0 H locs) (hA : ∀ q, H0.size ≤ q → A0 q)
    (kk : ∀ (H1 : Heap) (locs1 : List Loc), va_P G vwCl wA H1 → H.size ≤ H1.size → va_S A0 H0 H1 locs1 → W p l e R s m args below meth c H1 locs1 cells slots Q (F0 m (pc + 3) ls (.int v :: rest))) : W p l e R s m args below meth c H locs cells slots Q (F0 m pc ls st0) := by
  refine va_calli (va_runV (As := As) (rest := rest) S hM cw ⟨gR.blind, va_recv hK.1 hPc hc he, fun U hU hW => ⟨rfl, by rw [hU], by rw [hU]; exact hPc, hK.moved hW⟩⟩ rfl hn hsize hst (lv_room hW) hdg hf) hS (fun q _ h => roA hS hA q h) (roA hS hA) (fun r u t H1 locs1 ht hvm hw hB hz hk hS1 => ?_)
  subst hw
  exact kk H1 locs1 (keptP hP hk) hz hS1
theorem roVl {v : Int64} (S : CallFix p m c cc nL s args Ts own) (hM : mRl l y ws rm (.ref b :: As) G cI wc H.size v) (cw : CallW R s args own C index y bytes maxL ret ws rm 0 0 n) (hK : gK G cI s) (hP : va_P G vwCl wA H) (hPc : va_P G vwCl wc H) (he : wc[0]? = some (b, .inr (ci, fs))) (hc : vwCl[ci]? = some (C, T, N)) (hn : As.length = n) (hsize : ls.size = nL) (hst : st0 = As.reverse ++ .ref b :: rest) (hW : (rest.map fun v => v.category).sum ≤ 8) (hdg : decode cc pc = .ok (.invokevirtual index, 3)) (hf : cells ≤ R.cells ∧ slots ≤ R.slots) (hS : va_S A0 H0 H locs) (hA : ∀ q, H0.size ≤ q → A0 q)
    (kk : ∀ (H1 : Heap) (locs1 : List Loc), va_P G vwCl wA H1 → H.size ≤ H1.size → va_S A0 H0 H1 locs1 → W p l e R s m args below meth c H1 locs1 cells slots Q (F0 m (pc + 3) ls (.long v :: rest))) : W p l e R s m args below meth c H locs cells slots Q (F0 m pc ls st0) := by
  refine va_calll (va_runV (As := As) (rest := rest) S hM cw ⟨gR.blind, va_recv hK.1 hPc hc he, fun U hU hW => ⟨rfl, by rw [hU], by rw [hU]; exact hPc, hK.moved hW⟩⟩ rfl hn hsize hst (lv_room hW) hdg hf) hS (fun q _ h => roA hS hA q h) (roA hS hA) (fun r u t H1 locs1 ht hvm hw hB hz hk hS1 => ?_)
  subst hw
  exact kk H1 locs1 (keptP hP hk) hz hS1
theorem roSi {v : Int32} (S : CallFix p m c cc nL s args Ts own) (hM : mRi l y ws rm As G cI [] H.size v) (cw : CallB R s args own index y bytes maxL ret ws rm 0 0 n ∧ (Cond.static y).before args s = true) (hK : gK G cI s) (hP : va_P G vwCl wA H) (hn : As.length = n) (hsize : ls.size = nL) (hst : st0 = As.reverse ++ rest) (hW : (rest.map fun v => v.category).sum ≤ 8) (hdg : decode cc pc = .ok (.invokestatic index, 3)) (hf : cells ≤ R.cells ∧ slots ≤ R.slots) (hS : va_S A0 H0 H locs) (hA : ∀ q, H0.size ≤ q → A0 q)
    (kk : ∀ (H1 : Heap) (locs1 : List Loc), va_P G vwCl wA H1 → H.size ≤ H1.size → va_S A0 H0 H1 locs1 → W p l e R s m args below meth c H1 locs1 cells slots Q (F0 m (pc + 3) ls (.int v :: rest))) : W p l e R s m args below meth c H locs cells slots Q (F0 m pc ls st0) := by
  refine va_calli (va_runS (As := As) (rest := rest) S hM cw ⟨gR.blind, fun U hU hW => ⟨rfl, by rw [hU], fun k q h => by simp at h, hK.moved hW⟩⟩ rfl hn hsize hst (lv_room hW) hdg hf) hS (fun q _ h => roA hS hA q h) (roA hS hA) (fun r u t H1 locs1 ht hvm hw hB hz hk hS1 => ?_)
  subst hw
  exact kk H1 locs1 (keptP hP hk) hz hS1
theorem roSl {v : Int64} (S : CallFix p m c cc nL s args Ts own) (hM : mRl l y ws rm As G cI [] H.size v) (cw : CallB R s args own index y bytes maxL ret ws rm 0 0 n ∧ (Cond.static y).before args s = true) (hK : gK G cI s) (hP : va_P G vwCl wA H) (hn : As.length = n) (hsize : ls.size = nL) (hst : st0 = As.reverse ++ rest) (hW : (rest.map fun v => v.category).sum ≤ 8) (hdg : decode cc pc = .ok (.invokestatic index, 3)) (hf : cells ≤ R.cells ∧ slots ≤ R.slots) (hS : va_S A0 H0 H locs) (hA : ∀ q, H0.size ≤ q → A0 q)
    (kk : ∀ (H1 : Heap) (locs1 : List Loc), va_P G vwCl wA H1 → H.size ≤ H1.size → va_S A0 H0 H1 locs1 → W p l e R s m args below meth c H1 locs1 cells slots Q (F0 m (pc + 3) ls (.long v :: rest))) : W p l e R s m args below meth c H locs cells slots Q (F0 m pc ls st0) := by
  refine va_calll (va_runS (As := As) (rest := rest) S hM cw ⟨gR.blind, fun U hU hW => ⟨rfl, by rw [hU], fun k q h => by simp at h, hK.moved hW⟩⟩ rfl hn hsize hst (lv_room hW) hdg hf) hS (fun q _ h => roA hS hA q h) (roA hS hA) (fun r u t H1 locs1 ht hvm hw hB hz hk hS1 => ?_)
  subst hw
  exact kk H1 locs1 (keptP hP hk) hz hS1
/-- a nest mate's static method -/
theorem roNl {v : Int64} {host : String} (S : CallFix p m c cc nL s args Ts own) (hM : mRl l y ws rm As G cI [] H.size v) (cw : va_CN R s args own index y host bytes maxL ret ws rm 0 0 n ∧ (Cond.static y).before args s = true ∧ True) (hK : gK G cI s) (hP : va_P G vwCl wA H) (hn : As.length = n) (hsize : ls.size = nL) (hst : st0 = As.reverse ++ rest) (hW : (rest.map fun v => v.category).sum ≤ 8) (hdg : decode cc pc = .ok (.invokestatic index, 3)) (hf : cells ≤ R.cells ∧ slots ≤ R.slots) (hS : va_S A0 H0 H locs) (hA : ∀ q, H0.size ≤ q → A0 q)
    (kk : ∀ (H1 : Heap) (locs1 : List Loc), va_P G vwCl wA H1 → H.size ≤ H1.size → va_S A0 H0 H1 locs1 → W p l e R s m args below meth c H1 locs1 cells slots Q (F0 m (pc + 3) ls (.long v :: rest))) : W p l e R s m args below meth c H locs cells slots Q (F0 m pc ls st0) := by
  refine va_calll (va_runSN (As := As) (rest := rest) S hM cw ⟨gR.blind, fun U hU hW => ⟨rfl, by rw [hU], fun k q h => by simp at h, hK.moved hW⟩⟩ rfl hn hsize hst (lv_room hW) hdg hf) hS (fun q _ h => roA hS hA q h) (roA hS hA) (fun r u t H1 locs1 ht hvm hw hB hz hk hS1 => ?_)
  subst hw
  exact kk H1 locs1 (keptP hP hk) hz hS1
theorem mcVi {v : Int32} (S : CallFix p m c cc nL s args Ts own) (hM : mMi l y ws rm (.ref b :: As) G cI wc H.size v w1 mc ms) (cw : CallW R s args own C index y bytes maxL ret ws rm mc ms n) (hK : gK G cI s) (hP : va_P G vwCl wA H) (hD : va_D A0 wA) (isC isR : List Nat) (hCf : isC.filterMap (fun i => wA[i]?) = wc) (hC : isC.map (fun i => wA[i]?) = wc.map some) (hR : isR.map (fun i => wA[i]?) = wr.map some) (hnC : va_nd isC = true) (hnR : va_nd isR = true) (hdis : ∀ i ∈ isR, i ∉ isC) (he : wc[0]? = some (b, .inr (ci, fs))) (hc : vwCl[ci]? = some (C, T, N)) (hn : As.length = n) (hsize : ls.size = nL) (hst : st0 = As.reverse ++ .ref b :: rest) (hW : (rest.map fun v => v.category).sum ≤ 8) (hdg : decode cc pc = .ok (.invokevirtual index, 3)) (hf : cells + mc ≤ R.cells ∧ slots + ms ≤ R.slots) (hS : va_S A0 H0 H locs) (hA : ∀ q, H0.size ≤ q → A0 q)
    (kk : ∀ (H1 : Heap) (locs1 : List Loc), va_P G vwCl (wr ++ w1) H1 → va_D A0 (wr ++ w1) → H.size ≤ H1.size → va_S A0 H0 H1 locs1 → W p l e R s m args below meth c H1 locs1 (cells + mc) (slots + ms) Q (F0 m (pc + 3) ls (.int v :: rest))) : W p l e R s m args below meth c H locs cells slots Q (F0 m pc ls st0) := by
  have hPc := hP.sub isC hCf
  have hDc := hD.sub isC hnC hC
  have hFc := va_free (wc := wc) hD hS hA isC hC
  refine va_calli (va_runV (As := As) (rest := rest) S hM cw ⟨gM.blind, va_recv hK.1 hPc hc he, fun U hU hW => ⟨rfl, by rw [hU], by rw [hU]; exact hPc, hK.moved hW, hDc.weaken (fun _ _ _ _ => trivial)⟩⟩ rfl hn hsize hst (lv_room hW) hdg hf) hS (fun q _ h => hFc q h) hFc (fun r u t H1 locs1 ht hvm hw hB hz hk hS1 => ?_)
  subst hw
  obtain ⟨hP1, hD1⟩ := hB
  rw [ht] at hP1
  obtain ⟨hP2, hD2⟩ := va_join (wr := wr) (w1 := w1) hP hD isC isR hC hR hnR hdis hk hFc hP1 hD1
  exact kk H1 locs1 hP2 hD2 hz hS1
theorem mcVv (S : CallFix p m c cc nL s args Ts own) (hM : mMv l y ws rm (.ref b :: As) G cI wc H.size w1 mc ms) (cw : CallW R s args own C index y bytes maxL ret ws rm mc ms n) (hK : gK G cI s) (hP : va_P G vwCl wA H) (hD : va_D A0 wA) (isC isR : List Nat) (hCf : isC.filterMap (fun i => wA[i]?) = wc) (hC : isC.map (fun i => wA[i]?) = wc.map some) (hR : isR.map (fun i => wA[i]?) = wr.map some) (hnC : va_nd isC = true) (hnR : va_nd isR = true) (hdis : ∀ i ∈ isR, i ∉ isC) (he : wc[0]? = some (b, .inr (ci, fs))) (hc : vwCl[ci]? = some (C, T, N)) (hn : As.length = n) (hsize : ls.size = nL) (hst : st0 = As.reverse ++ .ref b :: rest) (hW : (rest.map fun v => v.category).sum ≤ 8) (hdg : decode cc pc = .ok (.invokevirtual index, 3)) (hf : cells + mc ≤ R.cells ∧ slots + ms ≤ R.slots) (hS : va_S A0 H0 H locs) (hA : ∀ q, H0.size ≤ q → A0 q)
    (kk : ∀ (H1 : Heap) (locs1 : List Loc), va_P G vwCl (wr ++ w1) H1 → va_D A0 (wr ++ w1) → H.size ≤ H1.size → va_S A0 H0 H1 locs1 → W p l e R s m args below meth c H1 locs1 (cells + mc) (slots + ms) Q (F0 m (pc + 3) ls (rest))) : W p l e R s m args below meth c H locs cells slots Q (F0 m pc ls st0) := by
  have hPc := hP.sub isC hCf
  have hDc := hD.sub isC hnC hC
  have hFc := va_free (wc := wc) hD hS hA isC hC
  refine va_callv (va_runV (As := As) (rest := rest) S hM cw ⟨gM.blind, va_recv hK.1 hPc hc he, fun U hU hW => ⟨rfl, by rw [hU], by rw [hU]; exact hPc, hK.moved hW, hDc.weaken (fun _ _ _ _ => trivial)⟩⟩ rfl hn hsize hst (lv_room hW) hdg hf) hS (fun q _ h => hFc q h) hFc (fun u t H1 locs1 ht hvm hw hB hz hk hS1 => ?_)
  obtain ⟨hP1, hD1⟩ := hB
  rw [ht] at hP1
  obtain ⟨hP2, hD2⟩ := va_join (wr := wr) (w1 := w1) hP hD isC isR hC hR hnR hdis hk hFc hP1 hD1
  exact kk H1 locs1 hP2 hD2 hz hS1
theorem mcVl {v : Int64} (S : CallFix p m c cc nL s args Ts own) (hM : mMl l y ws rm (.ref b :: As) G cI wc H.size v w1 mc ms) (cw : CallW R s args own C index y bytes maxL ret ws rm mc ms n) (hK : gK G cI s) (hP : va_P G vwCl wA H) (hD : va_D A0 wA) (isC isR : List Nat) (hCf : isC.filterMap (fun i => wA[i]?) = wc) (hC : isC.map (fun i => wA[i]?) = wc.map some) (hR : isR.map (fun i => wA[i]?) = wr.map some) (hnC : va_nd isC = true) (hnR : va_nd isR = true) (hdis : ∀ i ∈ isR, i ∉ isC) (he : wc[0]? = some (b, .inr (ci, fs))) (hc : vwCl[ci]? = some (C, T, N)) (hn : As.length = n) (hsize : ls.size = nL) (hst : st0 = As.reverse ++ .ref b :: rest) (hW : (rest.map fun v => v.category).sum ≤ 8) (hdg : decode cc pc = .ok (.invokevirtual index, 3)) (hf : cells + mc ≤ R.cells ∧ slots + ms ≤ R.slots) (hS : va_S A0 H0 H locs) (hA : ∀ q, H0.size ≤ q → A0 q)
    (kk : ∀ (H1 : Heap) (locs1 : List Loc), va_P G vwCl (wr ++ w1) H1 → va_D A0 (wr ++ w1) → H.size ≤ H1.size → va_S A0 H0 H1 locs1 → W p l e R s m args below meth c H1 locs1 (cells + mc) (slots + ms) Q (F0 m (pc + 3) ls (.long v :: rest))) : W p l e R s m args below meth c H locs cells slots Q (F0 m pc ls st0) := by
  have hPc := hP.sub isC hCf
  have hDc := hD.sub isC hnC hC
  have hFc := va_free (wc := wc) hD hS hA isC hC
  refine va_calll (va_runV (As := As) (rest := rest) S hM cw ⟨gM.blind, va_recv hK.1 hPc hc he, fun U hU hW => ⟨rfl, by rw [hU], by rw [hU]; exact hPc, hK.moved hW, hDc.weaken (fun _ _ _ _ => trivial)⟩⟩ rfl hn hsize hst (lv_room hW) hdg hf) hS (fun q _ h => hFc q h) hFc (fun r u t H1 locs1 ht hvm hw hB hz hk hS1 => ?_)
  subst hw
  obtain ⟨hP1, hD1⟩ := hB
  rw [ht] at hP1
  obtain ⟨hP2, hD2⟩ := va_join (wr := wr) (w1 := w1) hP hD isC isR hC hR hnR hdis hk hFc hP1 hD1
  exact kk H1 locs1 hP2 hD2 hz hS1
theorem mcIv (S : CallFix p m c cc nL s args Ts own) (hM : mMv l y ws rm (.ref b :: As) G cI wc H.size w1 mc ms) (cw : CallB R s args own index y bytes maxL none ws rm mc ms n ∧ y.name = "<init>" ∧ (Cond.instanceMethod y).before args s = true) (hK : gK G cI s) (hP : va_P G vwCl wA H) (hD : va_D A0 wA) (isC isR : List Nat) (hCf : isC.filterMap (fun i => wA[i]?) = wc) (hC : isC.map (fun i => wA[i]?) = wc.map some) (hR : isR.map (fun i => wA[i]?) = wr.map some) (hnC : va_nd isC = true) (hnR : va_nd isR = true) (hdis : ∀ i ∈ isR, i ∉ isC) (hn : As.length = n) (hsize : ls.size = nL) (hst : st0 = As.reverse ++ .ref b :: rest) (hW : (rest.map fun v => v.category).sum ≤ 8) (hdg : decode cc pc = .ok (.invokespecial index, 3)) (hf : cells + mc ≤ R.cells ∧ slots + ms ≤ R.slots) (hS : va_S A0 H0 H locs) (hA : ∀ q, H0.size ≤ q → A0 q)
    (kk : ∀ (H1 : Heap) (locs1 : List Loc), va_P G vwCl (wr ++ w1) H1 → va_D A0 (wr ++ w1) → H.size ≤ H1.size → va_S A0 H0 H1 locs1 → W p l e R s m args below meth c H1 locs1 (cells + mc) (slots + ms) Q (F0 m (pc + 3) ls (rest))) : W p l e R s m args below meth c H locs cells slots Q (F0 m pc ls st0) := by
  have hPc := hP.sub isC hCf
  have hDc := hD.sub isC hnC hC
  have hFc := va_free (wc := wc) hD hS hA isC hC
  refine va_callv (va_runI (As := As) (rest := rest) S hM cw ⟨gM.blind, fun U hU hW => ⟨rfl, by rw [hU], by rw [hU]; exact hPc, hK.moved hW, hDc.weaken (fun _ _ _ _ => trivial)⟩⟩ rfl hn hsize hst (lv_room hW) hdg hf) hS (fun q _ h => hFc q h) hFc (fun u t H1 locs1 ht hvm hw hB hz hk hS1 => ?_)
  obtain ⟨hP1, hD1⟩ := hB
  rw [ht] at hP1
  obtain ⟨hP2, hD2⟩ := va_join (wr := wr) (w1 := w1) hP hD isC isR hC hR hnR hdis hk hFc hP1 hD1
  exact kk H1 locs1 hP2 hD2 hz hS1
theorem mcNv {host : String} (S : CallFix p m c cc nL s args Ts own) (hM : mMv l y ws rm (.ref b :: As) G cI wc H.size w1 mc ms) (cw : va_CN R s args own index y host bytes maxL none ws rm mc ms n ∧ y.name = "<init>" ∧ (Cond.instanceMethod y).before args s = true) (hK : gK G cI s) (hP : va_P G vwCl wA H) (hD : va_D A0 wA) (isC isR : List Nat) (hCf : isC.filterMap (fun i => wA[i]?) = wc) (hC : isC.map (fun i => wA[i]?) = wc.map some) (hR : isR.map (fun i => wA[i]?) = wr.map some) (hnC : va_nd isC = true) (hnR : va_nd isR = true) (hdis : ∀ i ∈ isR, i ∉ isC) (hn : As.length = n) (hsize : ls.size = nL) (hst : st0 = As.reverse ++ .ref b :: rest) (hW : (rest.map fun v => v.category).sum ≤ 8) (hdg : decode cc pc = .ok (.invokespecial index, 3)) (hf : cells + mc ≤ R.cells ∧ slots + ms ≤ R.slots) (hS : va_S A0 H0 H locs) (hA : ∀ q, H0.size ≤ q → A0 q)
    (kk : ∀ (H1 : Heap) (locs1 : List Loc), va_P G vwCl (wr ++ w1) H1 → va_D A0 (wr ++ w1) → H.size ≤ H1.size → va_S A0 H0 H1 locs1 → W p l e R s m args below meth c H1 locs1 (cells + mc) (slots + ms) Q (F0 m (pc + 3) ls (rest))) : W p l e R s m args below meth c H locs cells slots Q (F0 m pc ls st0) := by
  have hPc := hP.sub isC hCf
  have hDc := hD.sub isC hnC hC
  have hFc := va_free (wc := wc) hD hS hA isC hC
  refine va_callv (va_runIN (As := As) (rest := rest) S hM cw ⟨gM.blind, fun U hU hW => ⟨rfl, by rw [hU], by rw [hU]; exact hPc, hK.moved hW, hDc.weaken (fun _ _ _ _ => trivial)⟩⟩ rfl hn hsize hst (lv_room hW) hdg hf) hS (fun q _ h => hFc q h) hFc (fun u t H1 locs1 ht hvm hw hB hz hk hS1 => ?_)
  obtain ⟨hP1, hD1⟩ := hB
  rw [ht] at hP1
  obtain ⟨hP2, hD2⟩ := va_join (wr := wr) (w1 := w1) hP hD isC isR hC hR hnR hdis hk hFc hP1 hD1
  exact kk H1 locs1 hP2 hD2 hz hS1
/-- a callee that makes an object and gives it back: it comes behind the world -/
theorem ncVr {ce : va_E} (S : CallFix p m c cc nL s args Ts own) (hM : mNr l y ws rm (.ref b :: As) G cI wc H.size ce mc ms) (cw : CallW R s args own C index y bytes maxL ret ws rm mc ms n) (hK : gK G cI s) (hP : va_P G vwCl wA H) (hD : va_D A0 wA) (isC isR : List Nat) (hCf : isC.filterMap (fun i => wA[i]?) = wc) (hC : isC.map (fun i => wA[i]?) = wc.map some) (hR : isR.map (fun i => wA[i]?) = wr.map some) (hnC : va_nd isC = true) (hnR : va_nd isR = true) (hdis : ∀ i ∈ isR, i ∉ isC) (he : wc[0]? = some (b, .inr (ci, fs))) (hc : vwCl[ci]? = some (C, T, N)) (hn : As.length = n) (hsize : ls.size = nL) (hst : st0 = As.reverse ++ .ref b :: rest) (hW : (rest.map fun v => v.category).sum ≤ 8) (hdg : decode cc pc = .ok (.invokevirtual index, 3)) (hf : cells + mc ≤ R.cells ∧ slots + ms ≤ R.slots) (hS : va_S A0 H0 H locs) (hA : ∀ q, H0.size ≤ q → A0 q)
    (kk : ∀ (q : Nat) (H1 : Heap) (locs1 : List Loc), va_P G vwCl (wr ++ (wc ++ [(q, ce)])) H1 → va_D A0 (wr ++ (wc ++ [(q, ce)])) → H.size ≤ H1.size → va_S A0 H0 H1 locs1 → W p l e R s m args below meth c H1 locs1 (cells + mc) (slots + ms) Q (F0 m (pc + 3) ls (.ref q :: rest))) : W p l e R s m args below meth c H locs cells slots Q (F0 m pc ls st0) := by
  have hPc := hP.sub isC hCf
  have hDc := hD.sub isC hnC hC
  have hFc := va_free (wc := wc) hD hS hA isC hC
  refine va_callr (va_runV (As := As) (rest := rest) S hM cw ⟨gM.blind, va_recv hK.1 hPc hc he, fun U hU hW => ⟨rfl, by rw [hU], by rw [hU]; exact hPc, hK.moved hW, hDc.weaken (fun _ _ _ _ => trivial)⟩⟩ rfl hn hsize hst (lv_room hW) hdg hf) hS (fun q _ h => hFc q h) hFc (fun u ra t H1 locs1 ht hvm hw hB hz hk hS1 => ?_)
  obtain ⟨hP1, hD1⟩ := hB
  rw [ht] at hP1
  obtain ⟨hP2, hD2⟩ := va_join (wr := wr) hP hD isC isR hC hR hnR hdis hk hFc hP1 hD1
  exact kk ra H1 locs1 hP2 hD2 hz hS1
end CallsG
/-! small steps of the pure texts -/
def ckI {α : Type} (i : Int32) (n : Nat) (k : Option α) : Option α := if i < 0 ∨ n ≤ i.toNatClampNeg then none else k
theorem ckI_s {α : Type} {i : Int32} {n : Nat} {k : Option α} {r : α} (h : ckI i n k = some r) : vp_in i n ∧ k = some r := by
  unfold ckI at h
  by_cases hc : i < 0 ∨ n ≤ i.toNatClampNeg
  · rw [if_pos hc] at h; cases h
  · rw [if_neg hc] at h; exact ⟨hc, h⟩
def ckZ {α : Type} (y : Int32) (k : Option α) : Option α := if y = 0 then none else k
theorem ckZ_s {α : Type} {y : Int32} {k : Option α} {r : α} (h : ckZ y k = some r) : ¬ y = 0 ∧ k = some r := by
  unfold ckZ at h
  by_cases hc : y = 0
  · rw [if_pos hc] at h; cases h
  · rw [if_neg hc] at h; exact ⟨hc, h⟩
def ckL {α : Type} (y : Int64) (k : Option α) : Option α := if y = 0 then none else k
theorem ckL_s {α : Type} {y : Int64} {k : Option α} {r : α} (h : ckL y k = some r) : ¬ y = 0 ∧ k = some r := by
  unfold ckL at h
  by_cases hc : y = 0
  · rw [if_pos hc] at h; cases h
  · rw [if_neg hc] at h; exact ⟨hc, h⟩
def nm {α β : Type} (e : α) (k : α → β) : β := k e
theorem nm_s {α β : Type} {e x : α} {k : α → Option β} {r : β} (hx : x = e) (h : nm e k = some r) : k x = some r := by subst hx; exact h
theorem it_t {α : Type} {c : Prop} [Decidable c] {a b : Option α} {r : α} (hc : c) (h : (if c then a else b) = some r) : a = some r := by rw [if_pos hc] at h; exact h
theorem it_f {α : Type} {c : Prop} [Decidable c] {a b : Option α} {r : α} (hc : ¬ c) (h : (if c then a else b) = some r) : b = some r := by rw [if_neg hc] at h; exact h
def bd1 {A R : Type} (x : Option A) (k : A → Option R) : Option R := match x with | none => none | some a => k a
theorem bd1_s {A R : Type} {x : Option A} {k : A → Option R} {r : R} (h : bd1 x k = some r) : ∃ a, x = some a ∧ k a = some r := by
  cases x with
  | none => cases h
  | some a => exact ⟨a, rfl, h⟩
def bd2 {A B R : Type} (x : Option (A × B)) (k : A → B → Option R) : Option R := match x with | none => none | some (a1, b1) => k a1 b1
theorem bd2_s {A B R : Type} {x : Option (A × B)} {k : A → B → Option R} {r : R} (h : bd2 x k = some r) : ∃ a1 b1, x = some (a1, b1) ∧ k a1 b1 = some r := by
  cases x with
  | none => cases h
  | some a => exact ⟨a.1, a.2, rfl, h⟩
def bd3 {A B C R : Type} (x : Option (A × B × C)) (k : A → B → C → Option R) : Option R := match x with | none => none | some (a1, b1, c1) => k a1 b1 c1
theorem bd3_s {A B C R : Type} {x : Option (A × B × C)} {k : A → B → C → Option R} {r : R} (h : bd3 x k = some r) : ∃ a1 b1 c1, x = some (a1, b1, c1) ∧ k a1 b1 c1 = some r := by
  cases x with
  | none => cases h
  | some a => exact ⟨a.1, a.2.1, a.2.2, rfl, h⟩
def bd4 {A B C D R : Type} (x : Option (A × B × C × D)) (k : A → B → C → D → Option R) : Option R := match x with | none => none | some (a1, b1, c1, d1) => k a1 b1 c1 d1
theorem bd4_s {A B C D R : Type} {x : Option (A × B × C × D)} {k : A → B → C → D → Option R} {r : R} (h : bd4 x k = some r) : ∃ a1 b1 c1 d1, x = some (a1, b1, c1, d1) ∧ k a1 b1 c1 d1 = some r := by
  cases x with
  | none => cases h
  | some a => exact ⟨a.1, a.2.1, a.2.2.1, a.2.2.2, rfl, h⟩
def bd5 {A B C D E R : Type} (x : Option (A × B × C × D × E)) (k : A → B → C → D → E → Option R) : Option R := match x with | none => none | some (a1, b1, c1, d1, e1) => k a1 b1 c1 d1 e1
theorem bd5_s {A B C D E R : Type} {x : Option (A × B × C × D × E)} {k : A → B → C → D → E → Option R} {r : R} (h : bd5 x k = some r) : ∃ a1 b1 c1 d1 e1, x = some (a1, b1, c1, d1, e1) ∧ k a1 b1 c1 d1 e1 = some r := by
  cases x with
  | none => cases h
  | some a => exact ⟨a.1, a.2.1, a.2.2.1, a.2.2.2.1, a.2.2.2.2, rfl, h⟩
def bd6 {A B C D E F R : Type} (x : Option (A × B × C × D × E × F)) (k : A → B → C → D → E → F → Option R) : Option R := match x with | none => none | some (a1, b1, c1, d1, e1, f1) => k a1 b1 c1 d1 e1 f1
theorem bd6_s {A B C D E F R : Type} {x : Option (A × B × C × D × E × F)} {k : A → B → C → D → E → F → Option R} {r : R} (h : bd6 x k = some r) : ∃ a1 b1 c1 d1 e1 f1, x = some (a1, b1, c1, d1, e1, f1) ∧ k a1 b1 c1 d1 e1 f1 = some r := by
  cases x with
  | none => cases h
  | some a => exact ⟨a.1, a.2.1, a.2.2.1, a.2.2.2.1, a.2.2.2.2.1, a.2.2.2.2.2, rfl, h⟩
def bd7 {A B C D E F G R : Type} (x : Option (A × B × C × D × E × F × G)) (k : A → B → C → D → E → F → G → Option R) : Option R := match x with | none => none | some (a1, b1, c1, d1, e1, f1, g1) => k a1 b1 c1 d1 e1 f1 g1
theorem bd7_s {A B C D E F G R : Type} {x : Option (A × B × C × D × E × F × G)} {k : A → B → C → D → E → F → G → Option R} {r : R} (h : bd7 x k = some r) : ∃ a1 b1 c1 d1 e1 f1 g1, x = some (a1, b1, c1, d1, e1, f1, g1) ∧ k a1 b1 c1 d1 e1 f1 g1 = some r := by
  cases x with
  | none => cases h
  | some a => exact ⟨a.1, a.2.1, a.2.2.1, a.2.2.2.1, a.2.2.2.2.1, a.2.2.2.2.2.1, a.2.2.2.2.2.2, rfl, h⟩
def bd8 {A B C D E F G H R : Type} (x : Option (A × B × C × D × E × F × G × H)) (k : A → B → C → D → E → F → G → H → Option R) : Option R := match x with | none => none | some (a1, b1, c1, d1, e1, f1, g1, h1) => k a1 b1 c1 d1 e1 f1 g1 h1
theorem bd8_s {A B C D E F G H R : Type} {x : Option (A × B × C × D × E × F × G × H)} {k : A → B → C → D → E → F → G → H → Option R} {r : R} (h : bd8 x k = some r) : ∃ a1 b1 c1 d1 e1 f1 g1 h1, x = some (a1, b1, c1, d1, e1, f1, g1, h1) ∧ k a1 b1 c1 d1 e1 f1 g1 h1 = some r := by
  cases x with
  | none => cases h
  | some a => exact ⟨a.1, a.2.1, a.2.2.1, a.2.2.2.1, a.2.2.2.2.1, a.2.2.2.2.2.1, a.2.2.2.2.2.2.1, a.2.2.2.2.2.2.2, rfl, h⟩
def bd9 {A B C D E F G H I R : Type} (x : Option (A × B × C × D × E × F × G × H × I)) (k : A → B → C → D → E → F → G → H → I → Option R) : Option R := match x with | none => none | some (a1, b1, c1, d1, e1, f1, g1, h1, i1) => k a1 b1 c1 d1 e1 f1 g1 h1 i1
theorem bd9_s {A B C D E F G H I R : Type} {x : Option (A × B × C × D × E × F × G × H × I)} {k : A → B → C → D → E → F → G → H → I → Option R} {r : R} (h : bd9 x k = some r) : ∃ a1 b1 c1 d1 e1 f1 g1 h1 i1, x = some (a1, b1, c1, d1, e1, f1, g1, h1, i1) ∧ k a1 b1 c1 d1 e1 f1 g1 h1 i1 = some r := by
  cases x with
  | none => cases h
  | some a => exact ⟨a.1, a.2.1, a.2.2.1, a.2.2.2.1, a.2.2.2.2.1, a.2.2.2.2.2.1, a.2.2.2.2.2.2.1, a.2.2.2.2.2.2.2.1, a.2.2.2.2.2.2.2.2, rfl, h⟩
def FU : Nat := 1000000000
theorem qf_s {α : Type} {p : Program} {l : Launch} {e : Env} {R : Room} {s : State} {m : MethodId} {args : Array Value} {below : List Frame} {meth : Method} {c : Code} {H : Heap} {locs : List Loc} {cells slots : Nat} {g : JFrame} {Qf : α → State → Prop} {x y : α} (h : some x = some y) (k : W p l e R s m args below meth c H locs cells slots (Qf x) g) : W p l e R s m args below meth c H locs cells slots (Qf y) g := by
  cases h
  exact k

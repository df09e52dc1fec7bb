/-! the law: its context, its static calls -/
section CallsL
variable {p : Program} {l : Launch} {e : Env} {R : Room} {s : State} {m : MethodId} {args : Array Value} {below : List Frame} {meth : Method} {c : Code} {H H0 : Heap} {locs : List Loc} {cells slots : Nat} {Q : State → Prop} {A0 : Nat → Prop} {pc : Nat} {ls : Array Slot} {cc : ByteArray} {nL : Nat} {Ts : List Cond} {own : String} {G : va_G} {cI cJ : ClassId} {wA wc wr w1 : va_W} {As rest st0 : List Value} {index maxL n mc ms : Nat} {y : MethodName} {bytes : ByteArray} {ret : Option FieldType} {ws : List Cond} {rm : Room} {hh : List (Nat × Nat × Nat × Nat)}
theorem mcWi {v : Int32} (S0 : CallFix p m c cc nL s args Ts own) (hM : mMi l y ws rm As G cI wc H.size v w1 mc ms) (cw : vx_CSW R s args own index y bytes maxL ret hh ws rm mc ms n) (hK : gK G cI s) (hP : va_P G vwCl wA H) (hD : va_D A0 wA) (isC isR : List Nat) (hCf : isC.filterMap (fun i => wA[i]?) = wc) (hC : isC.map (fun i => wA[i]?) = wc.map some) (hR : isR.map (fun i => wA[i]?) = wr.map some) (hnC : va_nd isC = true) (hnR : va_nd isR = true) (hdis : ∀ i ∈ isR, i ∉ isC) (hn : As.length = n) (hsize : ls.size = nL) (hst : st0 = As.reverse ++ rest) (hW : (rest.map fun v => v.category).sum ≤ 8) (hdg : decode cc pc = .ok (.invokestatic index, 3)) (hf : cells + mc ≤ R.cells ∧ slots + ms ≤ R.slots) (hS : va_S A0 H0 H locs) (hA : ∀ q, H0.size ≤ q → A0 q)
    (kk : ∀ (H1 : Heap) (locs1 : List Loc), va_P G vwCl (wr ++ w1) H1 → va_D A0 (wr ++ w1) → H.size ≤ H1.size → va_S A0 H0 H1 locs1 → W p l e R s m args below meth c H1 locs1 (cells + mc) (slots + ms) Q (F0 m (pc + 3) ls (.int v :: rest))) : W p l e R s m args below meth c H locs cells slots Q (F0 m pc ls st0) := by
  have hPc := hP.sub isC hCf
  have hDc := hD.sub isC hnC hC
  have hFc := va_free (wc := wc) hD hS hA isC hC
  refine va_calli (vx_runSW (As := As) (rest := rest) S0 hM cw ⟨gM.blind, fun U hU hW => ⟨rfl, by rw [hU], by rw [hU]; exact hPc, hK.moved hW, hDc.weaken (fun _ _ _ _ => trivial)⟩⟩ rfl hn hsize hst (lv_room hW) hdg hf) hS (fun q _ h => hFc q h) hFc (fun r u t H1 locs1 ht hvm hw hB hz hk hS1 => ?_)
  subst hw
  obtain ⟨hP1, hD1⟩ := hB
  rw [ht] at hP1
  obtain ⟨hP2, hD2⟩ := va_join (wr := wr) (w1 := w1) hP hD isC isR hC hR hnR hdis hk hFc hP1 hD1
  exact kk H1 locs1 hP2 hD2 hz hS1
theorem mcW2 {v : Int32} (S0 : CallFix p m c cc nL s args Ts own) (hM : mOi l y ws rm As G cI cJ wc H.size v w1 mc ms) (cw : vx_CSW R s args own index y bytes maxL ret hh ws rm mc ms n) (hK : gK2 G cI cJ s) (hP : va_P G vwCl wA H) (hD : va_D A0 wA) (isC isR : List Nat) (hCf : isC.filterMap (fun i => wA[i]?) = wc) (hC : isC.map (fun i => wA[i]?) = wc.map some) (hR : isR.map (fun i => wA[i]?) = wr.map some) (hnC : va_nd isC = true) (hnR : va_nd isR = true) (hdis : ∀ i ∈ isR, i ∉ isC) (hn : As.length = n) (hsize : ls.size = nL) (hst : st0 = As.reverse ++ rest) (hW : (rest.map fun v => v.category).sum ≤ 8) (hdg : decode cc pc = .ok (.invokestatic index, 3)) (hf : cells + mc ≤ R.cells ∧ slots + ms ≤ R.slots) (hS : va_S A0 H0 H locs) (hA : ∀ q, H0.size ≤ q → A0 q)
    (kk : ∀ (H1 : Heap) (locs1 : List Loc), va_P G vwCl (wr ++ w1) H1 → va_D A0 (wr ++ w1) → H.size ≤ H1.size → va_S A0 H0 H1 locs1 → W p l e R s m args below meth c H1 locs1 (cells + mc) (slots + ms) Q (F0 m (pc + 3) ls (.int v :: rest))) : W p l e R s m args below meth c H locs cells slots Q (F0 m pc ls st0) := by
  have hPc := hP.sub isC hCf
  have hDc := hD.sub isC hnC hC
  have hFc := va_free (wc := wc) hD hS hA isC hC
  refine va_calli (vx_runSW (As := As) (rest := rest) S0 hM cw ⟨gM2.blind, fun U hU hW => ⟨rfl, by rw [hU], by rw [hU]; exact hPc, hK.moved hW, hDc.weaken (fun _ _ _ _ => trivial)⟩⟩ rfl hn hsize hst (lv_room hW) hdg hf) hS (fun q _ h => hFc q h) hFc (fun r u t H1 locs1 ht hvm hw hB hz hk hS1 => ?_)
  subst hw
  obtain ⟨hP1, hD1⟩ := hB
  rw [ht] at hP1
  obtain ⟨hP2, hD2⟩ := va_join (wr := wr) (w1 := w1) hP hD isC isR hC hR hnR hdis hk hFc hP1 hD1
  exact kk H1 locs1 hP2 hD2 hz hS1
theorem roWt {is : Nat} {tx : String} (S0 : CallFix p m c cc nL s args Ts own) (hM : mTc l y ws rm As G cI is tx wc H.size) (cw : vx_CSW R s args own index y bytes maxL ret hh ws rm 1 6 n) (hK : gK G cI s) (hTh : gTh is tx s) (hZ : gZ A0 s s.heap) (hP : va_P G vwCl wA H) (hPc : va_P G vwCl wc H) (hn : As.length = n) (hsize : ls.size = nL) (hst : st0 = As.reverse ++ rest) (hW : (rest.map fun v => v.category).sum ≤ 8) (hdg : decode cc pc = .ok (.invokestatic index, 3)) (hf : cells + 1 ≤ R.cells ∧ slots + 6 ≤ R.slots) (hS : va_S A0 s.heap H locs) (hA : ∀ q, s.heap.size ≤ q → A0 q)
    (kk : ∀ (H1 : Heap) (locs1 : List Loc), va_P G vwCl wA H1 → H.size ≤ H1.size → va_S A0 s.heap H1 locs1 → W p l e R s m args below meth c H1 locs1 (cells + 1) (slots + 6) Q (F0 m (pc + 3) ls (.int 1 :: rest))) : W p l e R s m args below meth c H locs cells slots Q (F0 m pc ls st0) := by
  refine va_calli (vx_runSW (As := As) (rest := rest) S0 hM cw ⟨gT.blind, fun U hU hW => ⟨rfl, by rw [hU], by rw [hU]; exact hPc, hK.moved hW, hTh.moved hW, gZ.at hW hU hS hA hZ⟩⟩ rfl hn hsize hst (lv_room hW) hdg hf) hS (fun q _ h => roA hS hA q h) (roA hS hA) (fun r u t H1 locs1 ht hvm hw hB hz hk hS1 => ?_)
  have hr : r = 1 := hw
  subst hr
  exact kk H1 locs1 (keptP hP hk) hz hS1
end CallsL
def LC (l : Launch) (p : Program) (s : State) (m : MethodId) (c : Code) (b L : Nat) (xs : Nat → Int32) (A : Nat → Prop) (G : va_G) (cI cJ : ClassId) : Prop :=
  p.tables.exec = Jvm.exec ∧ c.code = cL_law ∧ c.maxLocals = 7 ∧ s.vm.findClass RL = some m.cls ∧ (∀ w ∈ wsL_law, w.before #[Value.ref b] s = true) ∧ va_X b L xs s s.heap ∧ b < s.heap.size ∧ ¬ A b ∧ (∀ q, s.heap.size ≤ q → A q) ∧ gK2 G cI cJ s ∧ l.stackTraces = false ∧ gTh 34 "top must be 0 .. 100000, bottom 1 .. 100000" s ∧ gTh 96 "n must be 1 .. 1000, way 0 .. 2, what 0 or 1" s ∧ gTh 105 "tops must be 0 .. 5000, bottoms 1 .. 5000" s ∧ gZ A s s.heap
/-- the desk, the reference, the long's array -/
abbrev LW (cI cJ : ClassId) (h e0 a1 a2 a3 r0 a4 g4 a5 a6 ao : Nat) (mo qs ts bs : Nat → Int32) (cn mth mtp mbt mmn : Int32) (mte : Nat → Int32) (mrs : Int32) (mru : Nat → Int32) (mlt mlb mht mhb : Int64) (ol : Nat → Int64) : va_W := [(h, .inr (3, [.ref e0, .ref r0])), (e0, .inr (0, [.ref a1, .ref a2, .ref a3, .int cn])), (a1, .inl (cI, 32, .inl qs)), (a2, .inl (cI, 33, .inl ts)), (a3, .inl (cI, 33, .inl bs)), (r0, .inr (2, [.ref a4])), (a4, .inl (cI, 201, .inl mo)), (g4, .inr (4, [.int mth, .int mtp, .int mbt, .int mmn, .ref a5, .int mrs, .ref a6, .long mlt, .long mlb, .long mht, .long mhb])), (a5, .inl (cI, 64, .inl mte)), (a6, .inl (cI, 64, .inl mru)), (ao, .inl (cJ, 1, .inr (.inl ol)))]
/-- the law at the head of its loop (pc 23) or at its step (pc 680), from any state that the two objects agree in -/
def LK (p : Program) (l : Launch) (e : Env) (s : State) (m : MethodId) (below : List Frame) (meth : Method) (c : Code) (Q : State → Prop) (A : Nat → Prop) (G : va_G) (cI cJ : ClassId) (b h e0 a1 a2 a3 r0 a4 g4 a5 a6 ao : Nat) (mo : Nat → Int32) (i : Int32) (pc cells slots : Nat) : Prop :=
  ∀ (P Q0 : Nat) (qs ts bs : Nat → Int32) (cn mth mmn : Int32) (mte : Nat → Int32) (mrs : Int32) (mru : Nat → Int32) (mlt mlb mht mhb : Int64) (ol : Nat → Int64) (H : Heap) (locs : List Loc) (ls : Array Slot), SOk P Q0 qs ts bs cn → va_P G vwCl (LW cI cJ h e0 a1 a2 a3 r0 a4 g4 a5 a6 ao mo qs ts bs cn mth (nI P) (nI Q0) mmn mte mrs mru mlt mlb mht mhb ol) H → va_D A (LW cI cJ h e0 a1 a2 a3 r0 a4 g4 a5 a6 ao mo qs ts bs cn mth (nI P) (nI Q0) mmn mte mrs mru mlt mlb mht mhb ol) → va_S A s.heap H locs → lv_has ls 7 [(0, .ref b), (1, .ref h), (2, .ref g4), (3, .ref ao), (4, .int i)] → W p l e room_1 s m #[Value.ref b] below meth c H locs cells slots Q (F0 m pc ls [])
/-- the script's cells behind i -/
def LV (L : Nat) (xs : Nat → Int32) (i v1 v2 v3 v4 : Int32) : Prop := (vp_in (i + 1) L ∧ xs (Int32.toNatClampNeg (i + 1)) = v1) ∧ (vp_in (i + 2) L ∧ xs (Int32.toNatClampNeg (i + 2)) = v2) ∧ (vp_in (i + 3) L ∧ xs (Int32.toNatClampNeg (i + 3)) = v3) ∧ (vp_in (i + 4) L ∧ xs (Int32.toNatClampNeg (i + 4)) = v4)

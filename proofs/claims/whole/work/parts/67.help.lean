/-! the law's helpers: take, near, between, with what they catch -/
def gK2 (G : va_G) (cI cJ : ClassId) (U : State) : Prop := va_K G vwCl [(cI, .int), (cJ, .long)] U ∧ nw_ok U
theorem gK2.K {G : va_G} {cI cJ : ClassId} {U : State} (h : gK2 G cI cJ U) : gK G cI U := ⟨h.1.sub [0] rfl, h.2⟩
theorem gK2.moved {G : va_G} {cI cJ : ClassId} {s U : State} (hW : s.WarmedH U.vm) (h : gK2 G cI cJ s) : gK2 G cI cJ U := ⟨va_K.moved hW.alike h.1, va_Nw.warmM hW h.2.1, va_Nw.warmM hW h.2.2⟩
theorem gK2.calling {G : va_G} {cI cJ : ClassId} {U : State} {g : JFrame} {mk : MethodId} {a : Array Value} (h : gK2 G cI cJ U) : gK2 G cI cJ (U.calling g mk a) := ⟨va_K.moved (u := U) (U := U.calling g mk a) (Vm.Alike.refl U.vm) h.1, va_Nw.same rfl (show U.vm = (U.calling g mk a).vm from rfl) h.2.1, va_Nw.same rfl (show U.vm = (U.calling g mk a).vm from rfl) h.2.2⟩
def gM2 (G : va_G) (cI cJ : ClassId) (ws : va_W) (sz : Nat) (U : State) : Prop := U.heap.size = sz ∧ va_P G vwCl ws U.heap ∧ gK2 G cI cJ U ∧ va_D (fun _ => True) ws
theorem gM2.blind {G : va_G} {cI cJ : ClassId} {ws : va_W} {sz : Nat} {av : List Value} : FrameBlind (va_Pc av (gM2 G cI cJ ws sz)) := fun _ _ _ _ q => ⟨q.1, q.2.1, q.2.2.1, q.2.2.2.1.calling, q.2.2.2.2⟩
abbrev mOi (l : Launch) (y : MethodName) (ws : List Cond) (rm : Room) (av : List Value) (G : va_G) (cI cJ : ClassId) (wc : va_W) (sz : Nat) (v : Int32) (w1 : va_W) (mc ms : Nat) : Prop := Met l y ws rm (va_Pc av (gM2 G cI cJ wc sz)) (va_Qi (fun (r : Int32) (_ : Unit) => r = v) (fun _ t => va_P G vwCl w1 t.heap ∧ va_D (va_A wc sz) w1) (va_A wc sz)) mc ms (va_A wc sz)
abbrev mTc (l : Launch) (y : MethodName) (ws : List Cond) (rm : Room) (av : List Value) (G : va_G) (cI : ClassId) (is : Nat) (tx : String) (wc : va_W) (sz : Nat) : Prop := Met l y ws rm (va_Pc av (gT G cI is tx wc sz)) (va_Qi (fun (r : Int32) (_ : Unit) => r = 1) (fun _ _ => True) (va_A [] sz)) 1 6 (va_A [] sz)
set_option maxHeartbeats 4000000 in
set_option maxRecDepth 100000 in
theorem zL_take (l : Launch) (G : va_G) (cI : ClassId) (sz : Nat) (h e0 a1 a2 a3 r0 a4 : Nat) (qs ts bs : Nat → Int32) (cn : Int32) (mo : Nat → Int32) (p1 p2 : Int32) {o_qs : Nat → Int32} {o_ts : Nat → Int32} {o_bs : Nat → Int32} {o_cn : Int32} (hf : fX3_take qs ts bs cn p1 p2 = some (o_qs, o_ts, o_bs, o_cn)) : mMi l yL_take wsL_take ({ frames := 4, cells := 0, slots := 0, locals := 92 }) [.ref h, .int p1, .int p2] G cI [(h, .inr (3, [.ref e0, .ref r0])), (e0, .inr (0, [.ref a1, .ref a2, .ref a3, .int cn])), (a1, .inl (cI, 32, .inl qs)), (a2, .inl (cI, 33, .inl ts)), (a3, .inl (cI, 33, .inl bs)), (r0, .inr (2, [.ref a4])), (a4, .inl (cI, 201, .inl mo))] sz 0 [(h, .inr (3, [.ref e0, .ref r0])), (e0, .inr (0, [.ref a1, .ref a2, .ref a3, .int o_cn])), (a1, .inl (cI, 32, .inl o_qs)), (a2, .inl (cI, 33, .inl o_ts)), (a3, .inl (cI, 33, .inl o_bs)), (r0, .inr (2, [.ref a4])), (a4, .inl (cI, 201, .inl mo))] 0 0 := by
  refine va_MetW (cc := cL_take) (maxL := 4) (ret := some .int) (by decide) rfl ?_
  intro p e s m args below meth c s₁ B hml hv
  obtain ⟨rfl, hsz, hP, hK, hD0⟩ := hv
  have hx := B.exec
  have hb := B.bytes
  have hr := B.returns
  have hts := atoms_spec (ws := wsL_take) B.pre
  have hown : s.vm.findClass RL = some m.cls := findClass_of_methodNamed B.named
  have hlocks := B.notSynchronized
  subst hsz
  have hD := hD0.self (sz := s.heap.size)
  generalize hAe : va_A [(h, .inr (3, [.ref e0, .ref r0])), (e0, .inr (0, [.ref a1, .ref a2, .ref a3, .int cn])), (a1, .inl (cI, 32, .inl qs)), (a2, .inl (cI, 33, .inl ts)), (a3, .inl (cI, 33, .inl bs)), (r0, .inr (2, [.ref a4])), (a4, .inl (cI, 201, .inl mo))] s.heap.size = A at hD ⊢
  have hA : ∀ q : Nat, s.heap.size ≤ q → A q := fun q h => by rw [← hAe]; exact Or.inr h
  have hS : va_S A s.heap s.heap [] := va_S.rf
  have hl := lv_entry ([.ref h, .int p1, .int p2]) (n := 4) (Nat.le_of_ble_eq_true rfl)
  rw [lg_entry_eq]
  generalize (lg_sl ([.ref h, .int p1, .int p2]) ++ List.replicate (4 - (lg_sl ([.ref h, .int p1, .int p2])).length) Slot.unset).toArray = ls at hl ⊢
  have hl : lv_has ls 4 [(0, .ref h), (1, .int p1), (2, .int p2)] := hl
  refine lv_aload_n hx hb dL_take_0 rfl (lv_at hl 0 rfl) ?_
  refine lv_iload_n hx hb dL_take_1 rfl (lv_at hl 1 rfl) ?_
  refine lv_iload_n hx hb dL_take_2 rfl (lv_at hl 2 rfl) ?_
  refine mcVv (As := [.int p1, .int p2]) (rest := []) (wr := []) (wc := [(h, .inr (3, [.ref e0, .ref r0])), (e0, .inr (0, [.ref a1, .ref a2, .ref a3, .int cn])), (a1, .inl (cI, 32, .inl qs)), (a2, .inl (cI, 33, .inl ts)), (a3, .inl (cI, 33, .inl bs)), (r0, .inr (2, [.ref a4])), (a4, .inl (cI, 201, .inl mo))]) ⟨hx, hb, hml, hown, hts⟩ (zX3_take l G cI _ h e0 a1 a2 a3 r0 a4 qs ts bs cn mo p1 p2 hf) (cwV 2 hts gL_take_X3_take rfl rfl rfl (by decide +kernel) ⟨Nat.le_of_ble_eq_true rfl, Nat.le_of_ble_eq_true rfl⟩) hK hP hD [0, 1, 2, 3, 4, 5, 6] [] rfl rfl rfl (by decide) (by decide) (by decide) rfl rfl rfl hl.1 rfl (Nat.le_of_ble_eq_true rfl) dL_take_3 ⟨Nat.le_of_ble_eq_true rfl, Nat.le_of_ble_eq_true rfl⟩ hS hA (fun H locs hP hD hz1 hS => ?_)
  have hP : va_P G vwCl [(h, .inr (3, [.ref e0, .ref r0])), (e0, .inr (0, [.ref a1, .ref a2, .ref a3, .int o_cn])), (a1, .inl (cI, 32, .inl o_qs)), (a2, .inl (cI, 33, .inl o_ts)), (a3, .inl (cI, 33, .inl o_bs)), (r0, .inr (2, [.ref a4])), (a4, .inl (cI, 201, .inl mo))] H := hP
  have hD : va_D A [(h, .inr (3, [.ref e0, .ref r0])), (e0, .inr (0, [.ref a1, .ref a2, .ref a3, .int o_cn])), (a1, .inl (cI, 32, .inl o_qs)), (a2, .inl (cI, 33, .inl o_ts)), (a3, .inl (cI, 33, .inl o_bs)), (r0, .inr (2, [.ref a4])), (a4, .inl (cI, 201, .inl mo))] := hD
  refine lv_goto (tgt := 12) hx hb dL_take_6 (by decide) ?_
  refine lv_iconst (v := 0) hx hb dL_take_12 (by decide) ?_
  exact W.iret hx hb hr (fun t ht hW => ⟨⟨_, (), rfl, rfl, by rw [ht]; exact hP, hD⟩, hS.F ht⟩) hS.2.2 dL_take_13
set_option maxHeartbeats 4000000 in
set_option maxRecDepth 100000 in
theorem uL_take (l : Launch) (hl0 : l.stackTraces = false) (G : va_G) (cI : ClassId) (sz : Nat) (h e0 r0 : Nat) (p1 p2 : Int32) (hf : tX3_take p1 p2 = some ()) : mTc l yL_take wsL_take ({ frames := 7, cells := 1, slots := 6, locals := 104 }) [.ref h, .int p1, .int p2] G cI 34 "top must be 0 .. 100000, bottom 1 .. 100000" [(h, .inr (3, [.ref e0, .ref r0]))] sz := by
  refine va_MetW (cc := cL_take) (maxL := 4) (ret := some .int) (by decide) rfl ?_
  intro p e s m args below meth c s₁ B hml hv
  obtain ⟨rfl, hsz, hP, hK, hTh, hZ⟩ := hv
  have hx := B.exec
  have hb := B.bytes
  have hr := B.returns
  have hts := atoms_spec (ws := wsL_take) B.pre
  have hown : s.vm.findClass RL = some m.cls := findClass_of_methodNamed B.named
  have hlocks := B.notSynchronized
  subst hsz
  generalize hAe : va_A [] s.heap.size = A at hZ ⊢
  have htab := vx_table (x := yL_take) B (hts _ List.mem_cons_self)
  have hA : ∀ q : Nat, s.heap.size ≤ q → A q := fun q h => by rw [← hAe]; exact Or.inr h
  have hS : va_S A s.heap s.heap [] := va_S.rf
  have hl := lv_entry ([.ref h, .int p1, .int p2]) (n := 4) (Nat.le_of_ble_eq_true rfl)
  rw [lg_entry_eq]
  generalize (lg_sl ([.ref h, .int p1, .int p2]) ++ List.replicate (4 - (lg_sl ([.ref h, .int p1, .int p2])).length) Slot.unset).toArray = ls at hl ⊢
  have hl : lv_has ls 4 [(0, .ref h), (1, .int p1), (2, .int p2)] := hl
  refine lv_aload_n hx hb dL_take_0 rfl (lv_at hl 0 rfl) ?_
  refine lv_iload_n hx hb dL_take_1 rfl (lv_at hl 1 rfl) ?_
  refine lv_iload_n hx hb dL_take_2 rfl (lv_at hl 2 rfl) ?_
  refine vx_callv (vx_runV (As := [.int p1, .int p2]) (rest := []) ⟨hx, hb, hml, hown, hts⟩ (uX3_take l hl0 G cI _ h p1 p2 hf) (cwV 2 hts gL_take_X3_take rfl rfl rfl (by decide +kernel) ⟨Nat.le_of_ble_eq_true rfl, Nat.le_of_ble_eq_true rfl⟩) ⟨gT.blind, va_recv hK.1 hP rfl (q0 := 0) rfl, fun U hU hW => ⟨rfl, by rw [hU], fun k q h => by simp at h, hK.moved hW, hTh.moved hW, gZ.at hW hU hS hA hZ⟩⟩ rfl rfl hl.1 rfl (lv_room (Nat.le_of_ble_eq_true rfl)) dL_take_3 ⟨Nat.le_of_ble_eq_true rfl, Nat.le_of_ble_eq_true rfl⟩) hS (fun q _ h => roA hS hA q h) (roA hS hA) (fun q _ h => roA hS hA q h) (fun E ce q9 u t H1 locs1 ht hvm hpx hBX hz hk hS1 hc1 hc2 hc3 => ?_) (fun u t H1 locs1 ht hvm hp => False.elim hp)
  have hE : E = "java/lang/IllegalArgumentException" := hBX
  subst hE
  refine vx_catch (own := RL) (name := "java/lang/IllegalArgumentException") hown [] ⟨0, 6, 9, 13⟩ [] (by rw [htab]; rfl) (fun z hz => nomatch hz) (by decide) (by decide) (hts (.classLink RL 13 "java/lang/IllegalArgumentException") (by decide +kernel)) (va_Nw.use rfl hTh.2.1) hc1 hc2 hc3 ?_
  refine lv_astore_n (lv' := [(3, .ref q9), (0, .ref h), (1, .int p1), (2, .int p2)]) hx hb dL_take_9 rfl hl (by decide) rfl (fun ls hl => ?_)
  refine lv_iconst (v := 1) hx hb dL_take_10 (by decide) ?_
  exact W.iret hx hb hr (fun t ht hW => ⟨⟨_, (), rfl, rfl, trivial⟩, hS1.F ht⟩) hS1.2.2 dL_take_11
set_option maxHeartbeats 4000000 in
set_option maxRecDepth 100000 in
theorem zL_near (l : Launch) (G : va_G) (cI cJ : ClassId) (sz : Nat) (h e0 a1 a2 a3 r0 a4 ao : Nat) (qs ts bs : Nat → Int32) (cn : Int32) (mo : Nat → Int32) (ol : Nat → Int64) (p1 p2 p3 : Int32) {rv : Int32} (hf : fX3_near ts bs cn p1 p2 p3 = some rv) : mOi l yL_near wsL_near ({ frames := 4, cells := 2, slots := 4, locals := 99 }) [.ref h, .int p1, .int p2, .int p3, .ref ao] G cI cJ [(h, .inr (3, [.ref e0, .ref r0])), (e0, .inr (0, [.ref a1, .ref a2, .ref a3, .int cn])), (a1, .inl (cI, 32, .inl qs)), (a2, .inl (cI, 33, .inl ts)), (a3, .inl (cI, 33, .inl bs)), (r0, .inr (2, [.ref a4])), (a4, .inl (cI, 201, .inl mo)), (ao, .inl (cJ, 1, .inr (.inl ol)))] sz 0 [(h, .inr (3, [.ref e0, .ref r0])), (e0, .inr (0, [.ref a1, .ref a2, .ref a3, .int cn])), (a1, .inl (cI, 32, .inl qs)), (a2, .inl (cI, 33, .inl ts)), (a3, .inl (cI, 33, .inl bs)), (r0, .inr (2, [.ref a4])), (a4, .inl (cI, 201, .inl mo)), (ao, .inl (cJ, 1, .inr (.inl (vp_updL ol (Int32.toNatClampNeg 0) (Int32.toInt64 rv)))))] 2 4 := by
  refine va_MetW (cc := cL_near) (maxL := 6) (ret := some .int) (by decide) rfl ?_
  intro p e s m args below meth c s₁ B hml hv
  obtain ⟨rfl, hsz, hP, hK2, hD0⟩ := hv
  have hx := B.exec
  have hb := B.bytes
  have hr := B.returns
  have hts := atoms_spec (ws := wsL_near) B.pre
  have hown : s.vm.findClass RL = some m.cls := findClass_of_methodNamed B.named
  have hlocks := B.notSynchronized
  subst hsz
  have hK := hK2.K
  have hD := hD0.self (sz := s.heap.size)
  generalize hAe : va_A [(h, .inr (3, [.ref e0, .ref r0])), (e0, .inr (0, [.ref a1, .ref a2, .ref a3, .int cn])), (a1, .inl (cI, 32, .inl qs)), (a2, .inl (cI, 33, .inl ts)), (a3, .inl (cI, 33, .inl bs)), (r0, .inr (2, [.ref a4])), (a4, .inl (cI, 201, .inl mo)), (ao, .inl (cJ, 1, .inr (.inl ol)))] s.heap.size = A at hD ⊢
  have hA : ∀ q : Nat, s.heap.size ≤ q → A q := fun q h => by rw [← hAe]; exact Or.inr h
  have hS : va_S A s.heap s.heap [] := va_S.rf
  have hl := lv_entry ([.ref h, .int p1, .int p2, .int p3, .ref ao]) (n := 6) (Nat.le_of_ble_eq_true rfl)
  rw [lg_entry_eq]
  generalize (lg_sl ([.ref h, .int p1, .int p2, .int p3, .ref ao]) ++ List.replicate (6 - (lg_sl ([.ref h, .int p1, .int p2, .int p3, .ref ao])).length) Slot.unset).toArray = ls at hl ⊢
  have hl : lv_has ls 6 [(0, .ref h), (1, .int p1), (2, .int p2), (3, .int p3), (4, .ref ao)] := hl
  refine lv_aload hx hb dL_near_0 (lv_at hl 4 rfl) ?_
  refine lv_iconst (v := 0) hx hb dL_near_2 (by decide) ?_
  refine lv_aload_n hx hb dL_near_3 rfl (lv_at hl 0 rfl) ?_
  refine lv_iload_n hx hb dL_near_4 rfl (lv_at hl 1 rfl) ?_
  refine lv_iload_n hx hb dL_near_5 rfl (lv_at hl 2 rfl) ?_
  refine lv_iload_n hx hb dL_near_6 rfl (lv_at hl 3 rfl) ?_
  refine mcVi (As := [.int p1, .int p2, .int p3]) (rest := [.int 0, .ref ao]) (wr := [(ao, .inl (cJ, 1, .inr (.inl ol)))]) (wc := [(h, .inr (3, [.ref e0, .ref r0])), (e0, .inr (0, [.ref a1, .ref a2, .ref a3, .int cn])), (a1, .inl (cI, 32, .inl qs)), (a2, .inl (cI, 33, .inl ts)), (a3, .inl (cI, 33, .inl bs)), (r0, .inr (2, [.ref a4])), (a4, .inl (cI, 201, .inl mo))]) ⟨hx, hb, hml, hown, hts⟩ (zX3_near l G cI _ h e0 a1 a2 a3 r0 a4 qs ts bs cn mo p1 p2 p3 hf) (cwV 3 hts gL_near_X3_near rfl rfl rfl (by decide +kernel) ⟨Nat.le_of_ble_eq_true rfl, Nat.le_of_ble_eq_true rfl⟩) hK hP hD [0, 1, 2, 3, 4, 5, 6] [7] rfl rfl rfl (by decide) (by decide) (by decide) rfl rfl rfl hl.1 rfl (Nat.le_of_ble_eq_true rfl) dL_near_7 ⟨Nat.le_of_ble_eq_true rfl, Nat.le_of_ble_eq_true rfl⟩ hS hA (fun H locs hP hD hz1 hS => ?_)
  have hP : va_P G vwCl [(ao, .inl (cJ, 1, .inr (.inl ol))), (h, .inr (3, [.ref e0, .ref r0])), (e0, .inr (0, [.ref a1, .ref a2, .ref a3, .int cn])), (a1, .inl (cI, 32, .inl qs)), (a2, .inl (cI, 33, .inl ts)), (a3, .inl (cI, 33, .inl bs)), (r0, .inr (2, [.ref a4])), (a4, .inl (cI, 201, .inl mo))] H := hP
  have hD : va_D A [(ao, .inl (cJ, 1, .inr (.inl ol))), (h, .inr (3, [.ref e0, .ref r0])), (e0, .inr (0, [.ref a1, .ref a2, .ref a3, .int cn])), (a1, .inl (cI, 32, .inl qs)), (a2, .inl (cI, 33, .inl ts)), (a3, .inl (cI, 33, .inl bs)), (r0, .inr (2, [.ref a4])), (a4, .inl (cI, 201, .inl mo))] := hD
  refine lv_i2l hx hb dL_near_10 rfl ?_
  refine va_last hx hb hK2.1 hP hD hS 0 1 rfl rfl (by unfold vp_in; decide) dL_near_11 (fun H locs hP hD hS => ?_)
  have hP : va_P G vwCl [(h, .inr (3, [.ref e0, .ref r0])), (e0, .inr (0, [.ref a1, .ref a2, .ref a3, .int cn])), (a1, .inl (cI, 32, .inl qs)), (a2, .inl (cI, 33, .inl ts)), (a3, .inl (cI, 33, .inl bs)), (r0, .inr (2, [.ref a4])), (a4, .inl (cI, 201, .inl mo)), (ao, .inl (cJ, 1, .inr (.inl (vp_updL ol (Int32.toNatClampNeg 0) (Int32.toInt64 rv)))))] H := hP.sub [1, 2, 3, 4, 5, 6, 7, 0] rfl
  have hD : va_D A [(h, .inr (3, [.ref e0, .ref r0])), (e0, .inr (0, [.ref a1, .ref a2, .ref a3, .int cn])), (a1, .inl (cI, 32, .inl qs)), (a2, .inl (cI, 33, .inl ts)), (a3, .inl (cI, 33, .inl bs)), (r0, .inr (2, [.ref a4])), (a4, .inl (cI, 201, .inl mo)), (ao, .inl (cJ, 1, .inr (.inl (vp_updL ol (Int32.toNatClampNeg 0) (Int32.toInt64 rv)))))] := hD.sub [1, 2, 3, 4, 5, 6, 7, 0] (by decide) rfl
  refine lv_goto (tgt := 19) hx hb dL_near_12 (by decide) ?_
  refine lv_iconst (v := 0) hx hb dL_near_19 (by decide) ?_
  exact W.iret hx hb hr (fun t ht hW => ⟨⟨_, (), rfl, rfl, by rw [ht]; exact hP, hD⟩, hS.F ht⟩) hS.2.2 dL_near_20
set_option maxHeartbeats 4000000 in
set_option maxRecDepth 100000 in
theorem uL_near (l : Launch) (hl0 : l.stackTraces = false) (G : va_G) (cI : ClassId) (sz : Nat) (h e0 r0 ao : Nat) (p1 p2 p3 : Int32) (hf : tX3_near p1 p2 p3 = some ()) : mTc l yL_near wsL_near ({ frames := 7, cells := 1, slots := 6, locals := 106 }) [.ref h, .int p1, .int p2, .int p3, .ref ao] G cI 96 "n must be 1 .. 1000, way 0 .. 2, what 0 or 1" [(h, .inr (3, [.ref e0, .ref r0]))] sz := by
  refine va_MetW (cc := cL_near) (maxL := 6) (ret := some .int) (by decide) rfl ?_
  intro p e s m args below meth c s₁ B hml hv
  obtain ⟨rfl, hsz, hP, hK, hTh, hZ⟩ := hv
  have hx := B.exec
  have hb := B.bytes
  have hr := B.returns
  have hts := atoms_spec (ws := wsL_near) B.pre
  have hown : s.vm.findClass RL = some m.cls := findClass_of_methodNamed B.named
  have hlocks := B.notSynchronized
  subst hsz
  generalize hAe : va_A [] s.heap.size = A at hZ ⊢
  have htab := vx_table (x := yL_take) B (hts _ List.mem_cons_self)
  have hA : ∀ q : Nat, s.heap.size ≤ q → A q := fun q h => by rw [← hAe]; exact Or.inr h
  have hS : va_S A s.heap s.heap [] := va_S.rf
  have hl := lv_entry ([.ref h, .int p1, .int p2, .int p3, .ref ao]) (n := 6) (Nat.le_of_ble_eq_true rfl)
  rw [lg_entry_eq]
  generalize (lg_sl ([.ref h, .int p1, .int p2, .int p3, .ref ao]) ++ List.replicate (6 - (lg_sl ([.ref h, .int p1, .int p2, .int p3, .ref ao])).length) Slot.unset).toArray = ls at hl ⊢
  have hl : lv_has ls 6 [(0, .ref h), (1, .int p1), (2, .int p2), (3, .int p3), (4, .ref ao)] := hl
  refine lv_aload hx hb dL_near_0 (lv_at hl 4 rfl) ?_
  refine lv_iconst (v := 0) hx hb dL_near_2 (by decide) ?_
  refine lv_aload_n hx hb dL_near_3 rfl (lv_at hl 0 rfl) ?_
  refine lv_iload_n hx hb dL_near_4 rfl (lv_at hl 1 rfl) ?_
  refine lv_iload_n hx hb dL_near_5 rfl (lv_at hl 2 rfl) ?_
  refine lv_iload_n hx hb dL_near_6 rfl (lv_at hl 3 rfl) ?_
  refine vx_calli (vx_runV (As := [.int p1, .int p2, .int p3]) (rest := [.int 0, .ref ao]) ⟨hx, hb, hml, hown, hts⟩ (uX3_near l hl0 G cI _ h p1 p2 p3 hf) (cwV 3 hts gL_near_X3_near rfl rfl rfl (by decide +kernel) ⟨Nat.le_of_ble_eq_true rfl, Nat.le_of_ble_eq_true rfl⟩) ⟨gT.blind, va_recv hK.1 hP rfl (q0 := 0) rfl, fun U hU hW => ⟨rfl, by rw [hU], fun k q h => by simp at h, hK.moved hW, hTh.moved hW, gZ.at hW hU hS hA hZ⟩⟩ rfl rfl hl.1 rfl (lv_room (Nat.le_of_ble_eq_true rfl)) dL_near_7 ⟨Nat.le_of_ble_eq_true rfl, Nat.le_of_ble_eq_true rfl⟩) hS (fun q _ h => roA hS hA q h) (roA hS hA) (fun q _ h => roA hS hA q h) (fun E ce q9 u t H1 locs1 ht hvm hpx hBX hz hk hS1 hc1 hc2 hc3 => ?_) (fun r u t H1 locs1 ht hvm hp => False.elim hp)
  have hE : E = "java/lang/IllegalArgumentException" := hBX
  subst hE
  refine vx_catch (own := RL) (name := "java/lang/IllegalArgumentException") hown [] ⟨0, 12, 15, 13⟩ [] (by rw [htab]; rfl) (fun z hz => nomatch hz) (by decide) (by decide) (hts (.classLink RL 13 "java/lang/IllegalArgumentException") (by decide +kernel)) (va_Nw.use rfl hTh.2.1) hc1 hc2 hc3 ?_
  refine lv_astore (lv' := [(5, .ref q9), (0, .ref h), (1, .int p1), (2, .int p2), (3, .int p3), (4, .ref ao)]) hx hb dL_near_15 hl (by decide) rfl (fun ls hl => ?_)
  refine lv_iconst (v := 1) hx hb dL_near_17 (by decide) ?_
  exact W.iret hx hb hr (fun t ht hW => ⟨⟨_, (), rfl, rfl, trivial⟩, hS1.F ht⟩) hS1.2.2 dL_near_18
set_option maxHeartbeats 4000000 in
set_option maxRecDepth 100000 in
theorem zL_between (l : Launch) (G : va_G) (cI cJ : ClassId) (sz : Nat) (h e0 a1 a2 a3 r0 a4 ao : Nat) (qs ts bs : Nat → Int32) (cn : Int32) (mo : Nat → Int32) (ol : Nat → Int64) (p1 p2 p3 p4 : Int32) {rv : Int32} {o_qs : Nat → Int32} {o_ts : Nat → Int32} {o_bs : Nat → Int32} {o_cn : Int32} (hf : fX3_between qs ts bs cn p1 p2 p3 p4 = some (rv, o_qs, o_ts, o_bs, o_cn)) : mOi l yL_between wsL_between ({ frames := 4, cells := 0, slots := 0, locals := 96 }) [.ref h, .int p1, .int p2, .int p3, .int p4, .ref ao] G cI cJ [(h, .inr (3, [.ref e0, .ref r0])), (e0, .inr (0, [.ref a1, .ref a2, .ref a3, .int cn])), (a1, .inl (cI, 32, .inl qs)), (a2, .inl (cI, 33, .inl ts)), (a3, .inl (cI, 33, .inl bs)), (r0, .inr (2, [.ref a4])), (a4, .inl (cI, 201, .inl mo)), (ao, .inl (cJ, 1, .inr (.inl ol)))] sz 0 [(h, .inr (3, [.ref e0, .ref r0])), (e0, .inr (0, [.ref a1, .ref a2, .ref a3, .int o_cn])), (a1, .inl (cI, 32, .inl o_qs)), (a2, .inl (cI, 33, .inl o_ts)), (a3, .inl (cI, 33, .inl o_bs)), (r0, .inr (2, [.ref a4])), (a4, .inl (cI, 201, .inl mo)), (ao, .inl (cJ, 1, .inr (.inl (vp_updL ol (Int32.toNatClampNeg 0) (Int32.toInt64 rv)))))] 0 0 := by
  refine va_MetW (cc := cL_between) (maxL := 7) (ret := some .int) (by decide) rfl ?_
  intro p e s m args below meth c s₁ B hml hv
  obtain ⟨rfl, hsz, hP, hK2, hD0⟩ := hv
  have hx := B.exec
  have hb := B.bytes
  have hr := B.returns
  have hts := atoms_spec (ws := wsL_between) B.pre
  have hown : s.vm.findClass RL = some m.cls := findClass_of_methodNamed B.named
  have hlocks := B.notSynchronized
  subst hsz
  have hK := hK2.K
  have hD := hD0.self (sz := s.heap.size)
  generalize hAe : va_A [(h, .inr (3, [.ref e0, .ref r0])), (e0, .inr (0, [.ref a1, .ref a2, .ref a3, .int cn])), (a1, .inl (cI, 32, .inl qs)), (a2, .inl (cI, 33, .inl ts)), (a3, .inl (cI, 33, .inl bs)), (r0, .inr (2, [.ref a4])), (a4, .inl (cI, 201, .inl mo)), (ao, .inl (cJ, 1, .inr (.inl ol)))] s.heap.size = A at hD ⊢
  have hA : ∀ q : Nat, s.heap.size ≤ q → A q := fun q h => by rw [← hAe]; exact Or.inr h
  have hS : va_S A s.heap s.heap [] := va_S.rf
  have hl := lv_entry ([.ref h, .int p1, .int p2, .int p3, .int p4, .ref ao]) (n := 7) (Nat.le_of_ble_eq_true rfl)
  rw [lg_entry_eq]
  generalize (lg_sl ([.ref h, .int p1, .int p2, .int p3, .int p4, .ref ao]) ++ List.replicate (7 - (lg_sl ([.ref h, .int p1, .int p2, .int p3, .int p4, .ref ao])).length) Slot.unset).toArray = ls at hl ⊢
  have hl : lv_has ls 7 [(0, .ref h), (1, .int p1), (2, .int p2), (3, .int p3), (4, .int p4), (5, .ref ao)] := hl
  refine lv_aload hx hb dL_between_0 (lv_at hl 5 rfl) ?_
  refine lv_iconst (v := 0) hx hb dL_between_2 (by decide) ?_
  refine lv_aload_n hx hb dL_between_3 rfl (lv_at hl 0 rfl) ?_
  refine lv_iload_n hx hb dL_between_4 rfl (lv_at hl 1 rfl) ?_
  refine lv_iload_n hx hb dL_between_5 rfl (lv_at hl 2 rfl) ?_
  refine lv_iload_n hx hb dL_between_6 rfl (lv_at hl 3 rfl) ?_
  refine lv_iload hx hb dL_between_7 (lv_at hl 4 rfl) ?_
  refine mcVi (As := [.int p1, .int p2, .int p3, .int p4]) (rest := [.int 0, .ref ao]) (wr := [(ao, .inl (cJ, 1, .inr (.inl ol)))]) (wc := [(h, .inr (3, [.ref e0, .ref r0])), (e0, .inr (0, [.ref a1, .ref a2, .ref a3, .int cn])), (a1, .inl (cI, 32, .inl qs)), (a2, .inl (cI, 33, .inl ts)), (a3, .inl (cI, 33, .inl bs)), (r0, .inr (2, [.ref a4])), (a4, .inl (cI, 201, .inl mo))]) ⟨hx, hb, hml, hown, hts⟩ (zX3_between l G cI _ h e0 a1 a2 a3 r0 a4 qs ts bs cn mo p1 p2 p3 p4 hf) (cwV 4 hts gL_between_X3_between rfl rfl rfl (by decide +kernel) ⟨Nat.le_of_ble_eq_true rfl, Nat.le_of_ble_eq_true rfl⟩) hK hP hD [0, 1, 2, 3, 4, 5, 6] [7] rfl rfl rfl (by decide) (by decide) (by decide) rfl rfl rfl hl.1 rfl (Nat.le_of_ble_eq_true rfl) dL_between_9 ⟨Nat.le_of_ble_eq_true rfl, Nat.le_of_ble_eq_true rfl⟩ hS hA (fun H locs hP hD hz1 hS => ?_)
  have hP : va_P G vwCl [(ao, .inl (cJ, 1, .inr (.inl ol))), (h, .inr (3, [.ref e0, .ref r0])), (e0, .inr (0, [.ref a1, .ref a2, .ref a3, .int o_cn])), (a1, .inl (cI, 32, .inl o_qs)), (a2, .inl (cI, 33, .inl o_ts)), (a3, .inl (cI, 33, .inl o_bs)), (r0, .inr (2, [.ref a4])), (a4, .inl (cI, 201, .inl mo))] H := hP
  have hD : va_D A [(ao, .inl (cJ, 1, .inr (.inl ol))), (h, .inr (3, [.ref e0, .ref r0])), (e0, .inr (0, [.ref a1, .ref a2, .ref a3, .int o_cn])), (a1, .inl (cI, 32, .inl o_qs)), (a2, .inl (cI, 33, .inl o_ts)), (a3, .inl (cI, 33, .inl o_bs)), (r0, .inr (2, [.ref a4])), (a4, .inl (cI, 201, .inl mo))] := hD
  refine lv_i2l hx hb dL_between_12 rfl ?_
  refine va_last hx hb hK2.1 hP hD hS 0 1 rfl rfl (by unfold vp_in; decide) dL_between_13 (fun H locs hP hD hS => ?_)
  have hP : va_P G vwCl [(h, .inr (3, [.ref e0, .ref r0])), (e0, .inr (0, [.ref a1, .ref a2, .ref a3, .int o_cn])), (a1, .inl (cI, 32, .inl o_qs)), (a2, .inl (cI, 33, .inl o_ts)), (a3, .inl (cI, 33, .inl o_bs)), (r0, .inr (2, [.ref a4])), (a4, .inl (cI, 201, .inl mo)), (ao, .inl (cJ, 1, .inr (.inl (vp_updL ol (Int32.toNatClampNeg 0) (Int32.toInt64 rv)))))] H := hP.sub [1, 2, 3, 4, 5, 6, 7, 0] rfl
  have hD : va_D A [(h, .inr (3, [.ref e0, .ref r0])), (e0, .inr (0, [.ref a1, .ref a2, .ref a3, .int o_cn])), (a1, .inl (cI, 32, .inl o_qs)), (a2, .inl (cI, 33, .inl o_ts)), (a3, .inl (cI, 33, .inl o_bs)), (r0, .inr (2, [.ref a4])), (a4, .inl (cI, 201, .inl mo)), (ao, .inl (cJ, 1, .inr (.inl (vp_updL ol (Int32.toNatClampNeg 0) (Int32.toInt64 rv)))))] := hD.sub [1, 2, 3, 4, 5, 6, 7, 0] (by decide) rfl
  refine lv_goto (tgt := 21) hx hb dL_between_14 (by decide) ?_
  refine lv_iconst (v := 0) hx hb dL_between_21 (by decide) ?_
  exact W.iret hx hb hr (fun t ht hW => ⟨⟨_, (), rfl, rfl, by rw [ht]; exact hP, hD⟩, hS.F ht⟩) hS.2.2 dL_between_22
set_option maxHeartbeats 4000000 in
set_option maxRecDepth 100000 in
theorem uL_between (l : Launch) (hl0 : l.stackTraces = false) (G : va_G) (cI : ClassId) (sz : Nat) (h e0 r0 ao : Nat) (p1 p2 p3 p4 : Int32) (hf : tX3_between p1 p2 p3 p4 = some ()) : mTc l yL_between wsL_between ({ frames := 7, cells := 1, slots := 6, locals := 106 }) [.ref h, .int p1, .int p2, .int p3, .int p4, .ref ao] G cI 105 "tops must be 0 .. 5000, bottoms 1 .. 5000" [(h, .inr (3, [.ref e0, .ref r0]))] sz := by
  refine va_MetW (cc := cL_between) (maxL := 7) (ret := some .int) (by decide) rfl ?_
  intro p e s m args below meth c s₁ B hml hv
  obtain ⟨rfl, hsz, hP, hK, hTh, hZ⟩ := hv
  have hx := B.exec
  have hb := B.bytes
  have hr := B.returns
  have hts := atoms_spec (ws := wsL_between) B.pre
  have hown : s.vm.findClass RL = some m.cls := findClass_of_methodNamed B.named
  have hlocks := B.notSynchronized
  subst hsz
  generalize hAe : va_A [] s.heap.size = A at hZ ⊢
  have htab := vx_table (x := yL_take) B (hts _ List.mem_cons_self)
  have hA : ∀ q : Nat, s.heap.size ≤ q → A q := fun q h => by rw [← hAe]; exact Or.inr h
  have hS : va_S A s.heap s.heap [] := va_S.rf
  have hl := lv_entry ([.ref h, .int p1, .int p2, .int p3, .int p4, .ref ao]) (n := 7) (Nat.le_of_ble_eq_true rfl)
  rw [lg_entry_eq]
  generalize (lg_sl ([.ref h, .int p1, .int p2, .int p3, .int p4, .ref ao]) ++ List.replicate (7 - (lg_sl ([.ref h, .int p1, .int p2, .int p3, .int p4, .ref ao])).length) Slot.unset).toArray = ls at hl ⊢
  have hl : lv_has ls 7 [(0, .ref h), (1, .int p1), (2, .int p2), (3, .int p3), (4, .int p4), (5, .ref ao)] := hl
  refine lv_aload hx hb dL_between_0 (lv_at hl 5 rfl) ?_
  refine lv_iconst (v := 0) hx hb dL_between_2 (by decide) ?_
  refine lv_aload_n hx hb dL_between_3 rfl (lv_at hl 0 rfl) ?_
  refine lv_iload_n hx hb dL_between_4 rfl (lv_at hl 1 rfl) ?_
  refine lv_iload_n hx hb dL_between_5 rfl (lv_at hl 2 rfl) ?_
  refine lv_iload_n hx hb dL_between_6 rfl (lv_at hl 3 rfl) ?_
  refine lv_iload hx hb dL_between_7 (lv_at hl 4 rfl) ?_
  refine vx_calli (vx_runV (As := [.int p1, .int p2, .int p3, .int p4]) (rest := [.int 0, .ref ao]) ⟨hx, hb, hml, hown, hts⟩ (uX3_between l hl0 G cI _ h p1 p2 p3 p4 hf) (cwV 4 hts gL_between_X3_between rfl rfl rfl (by decide +kernel) ⟨Nat.le_of_ble_eq_true rfl, Nat.le_of_ble_eq_true rfl⟩) ⟨gT.blind, va_recv hK.1 hP rfl (q0 := 0) rfl, fun U hU hW => ⟨rfl, by rw [hU], fun k q h => by simp at h, hK.moved hW, hTh.moved hW, gZ.at hW hU hS hA hZ⟩⟩ rfl rfl hl.1 rfl (lv_room (Nat.le_of_ble_eq_true rfl)) dL_between_9 ⟨Nat.le_of_ble_eq_true rfl, Nat.le_of_ble_eq_true rfl⟩) hS (fun q _ h => roA hS hA q h) (roA hS hA) (fun q _ h => roA hS hA q h) (fun E ce q9 u t H1 locs1 ht hvm hpx hBX hz hk hS1 hc1 hc2 hc3 => ?_) (fun r u t H1 locs1 ht hvm hp => False.elim hp)
  have hE : E = "java/lang/IllegalArgumentException" := hBX
  subst hE
  refine vx_catch (own := RL) (name := "java/lang/IllegalArgumentException") hown [] ⟨0, 14, 17, 13⟩ [] (by rw [htab]; rfl) (fun z hz => nomatch hz) (by decide) (by decide) (hts (.classLink RL 13 "java/lang/IllegalArgumentException") (by decide +kernel)) (va_Nw.use rfl hTh.2.1) hc1 hc2 hc3 ?_
  refine lv_astore (lv' := [(6, .ref q9), (0, .ref h), (1, .int p1), (2, .int p2), (3, .int p3), (4, .int p4), (5, .ref ao)]) hx hb dL_between_17 hl (by decide) rfl (fun ls hl => ?_)
  refine lv_iconst (v := 1) hx hb dL_between_19 (by decide) ?_
  exact W.iret hx hb hr (fun t ht hW => ⟨⟨_, (), rfl, rfl, trivial⟩, hS1.F ht⟩) hS1.2.2 dL_between_20

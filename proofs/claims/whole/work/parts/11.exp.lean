def fX0_top (ts : Nat → Int32) (cn : Int32) : Option (Int32) :=
  ckI cn 33 <|
  some (ts (Int32.toNatClampNeg cn))
set_option maxHeartbeats 4000000 in
set_option maxRecDepth 100000 in
theorem zX0_top (l : Launch) (G : va_G) (cI : ClassId) (sz : Nat) (h a1 a2 a3 : Nat) (qs : Nat → Int32) (ts : Nat → Int32) (bs : Nat → Int32) (cn : Int32) {rv : Int32} (hf : fX0_top ts cn = some rv) : mRi l yX0_top wsX0_top ({ frames := 0, cells := 0, slots := 0, locals := 0 }) [.ref h] G cI [(h, .inr (0, [.ref a1, .ref a2, .ref a3, .int cn])), (a1, .inl (cI, 32, .inl qs)), (a2, .inl (cI, 33, .inl ts)), (a3, .inl (cI, 33, .inl bs))] sz rv := by
  refine Met.ofW (cc := cX0_top) (maxL := 1) (ret := (some .int)) (by decide) rfl ?_
  intro p e s m args below meth c s₁ B hml hv
  obtain ⟨rfl, hsz, hP, hK⟩ := hv
  have hx := B.exec
  have hb := B.bytes
  have hr := B.returns
  have hts := atoms_spec (ws := wsX0_top) B.pre
  have hown : s.vm.findClass RX0 = some m.cls := findClass_of_methodNamed B.named
  have hlocks := B.notSynchronized
  subst hsz
  generalize hAe : va_A [] s.heap.size = A
  have hA : ∀ q : Nat, s.heap.size ≤ q → A q := fun q h => by rw [← hAe]; exact Or.inr h
  have hS : va_S A s.heap s.heap [] := va_S.rf
  have w0 := hts (.fieldLink RX0 15 "SternDesk$Expansion" "tops" "[I") (by decide +kernel)
  have hinX0 : ∀ w ∈ u_ws RX0 TX0 4, w ∈ wsX0_top := by decide +kernel
  have w2 := hts (.fieldLink RX0 21 "SternDesk$Expansion" "count" "I") (by decide +kernel)
  obtain ⟨Qf, hQf⟩ : ∃ f : Int32 → State → Prop, f = fun z => MQ below (va_Qi (fun (r : Int32) (_ : Unit) => r = z) (fun _ _ => True) A) ([.ref h].toArray) s 0 0 A := ⟨_, rfl⟩
  suffices hgo : W p l e (headSpec wsX0_top ({ frames := 0, cells := 0, slots := 0, locals := 0 })).room s m ([.ref h].toArray) below meth c s.heap [] 0 0 (Qf rv) (entryFrame m ([.ref h].toArray) 1) by rw [hQf] at hgo; exact hgo
  have hl := lv_entry ([.ref h]) (n := 1) (Nat.le_of_ble_eq_true rfl)
  rw [lg_entry_eq]
  generalize (lg_sl ([.ref h]) ++ List.replicate (1 - (lg_sl ([.ref h])).length) Slot.unset).toArray = ls at hl ⊢
  have hl : lv_has ls 1 [(0, .ref h)] := hl
  unfold fX0_top at hf
  refine lv_aload_n hx hb dX0_top_0 rfl (lv_at hl 0 rfl) ?_
  refine va_get (D := G) (ci := 0) (v := .ref a2) (C := RX0) (T := TX0) (N := 4) hx hb hts hinX0 hown hK.1 hP 0 rfl rfl 1 (by decide) w0 (fun _ h9 => h9) rfl dX0_top_1 ?_
  refine lv_aload_n hx hb dX0_top_4 rfl (lv_at hl 0 rfl) ?_
  refine va_get (D := G) (ci := 0) (v := .int cn) (C := RX0) (T := TX0) (N := 4) hx hb hts hinX0 hown hK.1 hP 0 rfl rfl 3 (by decide) w2 (fun _ h9 => h9) rfl dX0_top_5 ?_
  obtain ⟨hi8, hf⟩ := ckI_s hf
  refine va_iald hx hb hK.1 hP 2 0 rfl rfl hi8 dX0_top_8 ?_
  refine qf_s (Qf := Qf) hf ?_
  rw [hQf]
  exact W.iret hx hb hr (fun t ht hW => ⟨⟨_, (), rfl, rfl, trivial⟩, hS.F ht⟩) hS.2.2 dX0_top_9
def fX0_bottom (bs : Nat → Int32) (cn : Int32) : Option (Int32) :=
  ckI cn 33 <|
  some (bs (Int32.toNatClampNeg cn))
set_option maxHeartbeats 4000000 in
set_option maxRecDepth 100000 in
theorem zX0_bottom (l : Launch) (G : va_G) (cI : ClassId) (sz : Nat) (h a1 a2 a3 : Nat) (qs : Nat → Int32) (ts : Nat → Int32) (bs : Nat → Int32) (cn : Int32) {rv : Int32} (hf : fX0_bottom bs cn = some rv) : mRi l yX0_bottom wsX0_bottom ({ frames := 0, cells := 0, slots := 0, locals := 0 }) [.ref h] G cI [(h, .inr (0, [.ref a1, .ref a2, .ref a3, .int cn])), (a1, .inl (cI, 32, .inl qs)), (a2, .inl (cI, 33, .inl ts)), (a3, .inl (cI, 33, .inl bs))] sz rv := by
  refine Met.ofW (cc := cX0_bottom) (maxL := 1) (ret := (some .int)) (by decide) rfl ?_
  intro p e s m args below meth c s₁ B hml hv
  obtain ⟨rfl, hsz, hP, hK⟩ := hv
  have hx := B.exec
  have hb := B.bytes
  have hr := B.returns
  have hts := atoms_spec (ws := wsX0_bottom) B.pre
  have hown : s.vm.findClass RX0 = some m.cls := findClass_of_methodNamed B.named
  have hlocks := B.notSynchronized
  subst hsz
  generalize hAe : va_A [] s.heap.size = A
  have hA : ∀ q : Nat, s.heap.size ≤ q → A q := fun q h => by rw [← hAe]; exact Or.inr h
  have hS : va_S A s.heap s.heap [] := va_S.rf
  have w0 := hts (.fieldLink RX0 18 "SternDesk$Expansion" "bottoms" "[I") (by decide +kernel)
  have hinX0 : ∀ w ∈ u_ws RX0 TX0 4, w ∈ wsX0_bottom := by decide +kernel
  have w2 := hts (.fieldLink RX0 21 "SternDesk$Expansion" "count" "I") (by decide +kernel)
  obtain ⟨Qf, hQf⟩ : ∃ f : Int32 → State → Prop, f = fun z => MQ below (va_Qi (fun (r : Int32) (_ : Unit) => r = z) (fun _ _ => True) A) ([.ref h].toArray) s 0 0 A := ⟨_, rfl⟩
  suffices hgo : W p l e (headSpec wsX0_bottom ({ frames := 0, cells := 0, slots := 0, locals := 0 })).room s m ([.ref h].toArray) below meth c s.heap [] 0 0 (Qf rv) (entryFrame m ([.ref h].toArray) 1) by rw [hQf] at hgo; exact hgo
  have hl := lv_entry ([.ref h]) (n := 1) (Nat.le_of_ble_eq_true rfl)
  rw [lg_entry_eq]
  generalize (lg_sl ([.ref h]) ++ List.replicate (1 - (lg_sl ([.ref h])).length) Slot.unset).toArray = ls at hl ⊢
  have hl : lv_has ls 1 [(0, .ref h)] := hl
  unfold fX0_bottom at hf
  refine lv_aload_n hx hb dX0_bottom_0 rfl (lv_at hl 0 rfl) ?_
  refine va_get (D := G) (ci := 0) (v := .ref a3) (C := RX0) (T := TX0) (N := 4) hx hb hts hinX0 hown hK.1 hP 0 rfl rfl 2 (by decide) w0 (fun _ h9 => h9) rfl dX0_bottom_1 ?_
  refine lv_aload_n hx hb dX0_bottom_4 rfl (lv_at hl 0 rfl) ?_
  refine va_get (D := G) (ci := 0) (v := .int cn) (C := RX0) (T := TX0) (N := 4) hx hb hts hinX0 hown hK.1 hP 0 rfl rfl 3 (by decide) w2 (fun _ h9 => h9) rfl dX0_bottom_5 ?_
  obtain ⟨hi8, hf⟩ := ckI_s hf
  refine va_iald hx hb hK.1 hP 3 0 rfl rfl hi8 dX0_bottom_8 ?_
  refine qf_s (Qf := Qf) hf ?_
  rw [hQf]
  exact W.iret hx hb hr (fun t ht hW => ⟨⟨_, (), rfl, rfl, trivial⟩, hS.F ht⟩) hS.2.2 dX0_bottom_9
def fX0_topBefore (ts : Nat → Int32) (cn : Int32) : Option (Int32) :=
  if cn ≤ 0 then
    some 0
  else
    ckI (cn - 1) 33 <|
    some (ts (Int32.toNatClampNeg (cn - 1)))
set_option maxHeartbeats 4000000 in
set_option maxRecDepth 100000 in
theorem zX0_topBefore (l : Launch) (G : va_G) (cI : ClassId) (sz : Nat) (h a1 a2 a3 : Nat) (qs : Nat → Int32) (ts : Nat → Int32) (bs : Nat → Int32) (cn : Int32) {rv : Int32} (hf : fX0_topBefore ts cn = some rv) : mRi l yX0_topBefore wsX0_topBefore ({ frames := 0, cells := 0, slots := 0, locals := 0 }) [.ref h] G cI [(h, .inr (0, [.ref a1, .ref a2, .ref a3, .int cn])), (a1, .inl (cI, 32, .inl qs)), (a2, .inl (cI, 33, .inl ts)), (a3, .inl (cI, 33, .inl bs))] sz rv := by
  refine Met.ofW (cc := cX0_topBefore) (maxL := 1) (ret := (some .int)) (by decide) rfl ?_
  intro p e s m args below meth c s₁ B hml hv
  obtain ⟨rfl, hsz, hP, hK⟩ := hv
  have hx := B.exec
  have hb := B.bytes
  have hr := B.returns
  have hts := atoms_spec (ws := wsX0_topBefore) B.pre
  have hown : s.vm.findClass RX0 = some m.cls := findClass_of_methodNamed B.named
  have hlocks := B.notSynchronized
  subst hsz
  generalize hAe : va_A [] s.heap.size = A
  have hA : ∀ q : Nat, s.heap.size ≤ q → A q := fun q h => by rw [← hAe]; exact Or.inr h
  have hS : va_S A s.heap s.heap [] := va_S.rf
  have w0 := hts (.fieldLink RX0 21 "SternDesk$Expansion" "count" "I") (by decide +kernel)
  have hinX0 : ∀ w ∈ u_ws RX0 TX0 4, w ∈ wsX0_topBefore := by decide +kernel
  have w2 := hts (.fieldLink RX0 15 "SternDesk$Expansion" "tops" "[I") (by decide +kernel)
  obtain ⟨Qf, hQf⟩ : ∃ f : Int32 → State → Prop, f = fun z => MQ below (va_Qi (fun (r : Int32) (_ : Unit) => r = z) (fun _ _ => True) A) ([.ref h].toArray) s 0 0 A := ⟨_, rfl⟩
  suffices hgo : W p l e (headSpec wsX0_topBefore ({ frames := 0, cells := 0, slots := 0, locals := 0 })).room s m ([.ref h].toArray) below meth c s.heap [] 0 0 (Qf rv) (entryFrame m ([.ref h].toArray) 1) by rw [hQf] at hgo; exact hgo
  have hl := lv_entry ([.ref h]) (n := 1) (Nat.le_of_ble_eq_true rfl)
  rw [lg_entry_eq]
  generalize (lg_sl ([.ref h]) ++ List.replicate (1 - (lg_sl ([.ref h])).length) Slot.unset).toArray = ls at hl ⊢
  have hl : lv_has ls 1 [(0, .ref h)] := hl
  unfold fX0_topBefore at hf
  refine lv_aload_n hx hb dX0_topBefore_0 rfl (lv_at hl 0 rfl) ?_
  refine va_get (D := G) (ci := 0) (v := .int cn) (C := RX0) (T := TX0) (N := 4) hx hb hts hinX0 hown hK.1 hP 0 rfl rfl 3 (by decide) w0 (fun _ h9 => h9) rfl dX0_topBefore_1 ?_
  refine lv_if_le (tgt := 21) hx hb dX0_topBefore_4 (by decide) (fun c4 => ?_) (fun c4 => ?_)
  · have hf := it_t c4 hf
    refine lv_iconst (v := 0) hx hb dX0_topBefore_21 (by decide) ?_
    refine qf_s (Qf := Qf) hf ?_
    rw [hQf]
    exact W.iret hx hb hr (fun t ht hW => ⟨⟨_, (), rfl, rfl, trivial⟩, hS.F ht⟩) hS.2.2 dX0_topBefore_22
  · have hf := it_f c4 hf
    refine lv_aload_n hx hb dX0_topBefore_7 rfl (lv_at hl 0 rfl) ?_
    refine va_get (D := G) (ci := 0) (v := .ref a2) (C := RX0) (T := TX0) (N := 4) hx hb hts hinX0 hown hK.1 hP 0 rfl rfl 1 (by decide) w2 (fun _ h9 => h9) rfl dX0_topBefore_8 ?_
    refine lv_aload_n hx hb dX0_topBefore_11 rfl (lv_at hl 0 rfl) ?_
    refine va_get (D := G) (ci := 0) (v := .int cn) (C := RX0) (T := TX0) (N := 4) hx hb hts hinX0 hown hK.1 hP 0 rfl rfl 3 (by decide) w0 (fun _ h9 => h9) rfl dX0_topBefore_12 ?_
    refine lv_iconst (v := 1) hx hb dX0_topBefore_15 (by decide) ?_
    refine lv_isub hx hb dX0_topBefore_16 ?_
    obtain ⟨hi17, hf⟩ := ckI_s hf
    refine va_iald hx hb hK.1 hP 2 0 rfl rfl hi17 dX0_topBefore_17 ?_
    refine lv_goto (tgt := 22) hx hb dX0_topBefore_18 (by decide) ?_
    refine qf_s (Qf := Qf) hf ?_
    rw [hQf]
    exact W.iret hx hb hr (fun t ht hW => ⟨⟨_, (), rfl, rfl, trivial⟩, hS.F ht⟩) hS.2.2 dX0_topBefore_22
def fX0_bottomBefore (bs : Nat → Int32) (cn : Int32) : Option (Int32) :=
  if cn ≤ 0 then
    some 1
  else
    ckI (cn - 1) 33 <|
    some (bs (Int32.toNatClampNeg (cn - 1)))
set_option maxHeartbeats 4000000 in
set_option maxRecDepth 100000 in
theorem zX0_bottomBefore (l : Launch) (G : va_G) (cI : ClassId) (sz : Nat) (h a1 a2 a3 : Nat) (qs : Nat → Int32) (ts : Nat → Int32) (bs : Nat → Int32) (cn : Int32) {rv : Int32} (hf : fX0_bottomBefore bs cn = some rv) : mRi l yX0_bottomBefore wsX0_bottomBefore ({ frames := 0, cells := 0, slots := 0, locals := 0 }) [.ref h] G cI [(h, .inr (0, [.ref a1, .ref a2, .ref a3, .int cn])), (a1, .inl (cI, 32, .inl qs)), (a2, .inl (cI, 33, .inl ts)), (a3, .inl (cI, 33, .inl bs))] sz rv := by
  refine Met.ofW (cc := cX0_bottomBefore) (maxL := 1) (ret := (some .int)) (by decide) rfl ?_
  intro p e s m args below meth c s₁ B hml hv
  obtain ⟨rfl, hsz, hP, hK⟩ := hv
  have hx := B.exec
  have hb := B.bytes
  have hr := B.returns
  have hts := atoms_spec (ws := wsX0_bottomBefore) B.pre
  have hown : s.vm.findClass RX0 = some m.cls := findClass_of_methodNamed B.named
  have hlocks := B.notSynchronized
  subst hsz
  generalize hAe : va_A [] s.heap.size = A
  have hA : ∀ q : Nat, s.heap.size ≤ q → A q := fun q h => by rw [← hAe]; exact Or.inr h
  have hS : va_S A s.heap s.heap [] := va_S.rf
  have w0 := hts (.fieldLink RX0 21 "SternDesk$Expansion" "count" "I") (by decide +kernel)
  have hinX0 : ∀ w ∈ u_ws RX0 TX0 4, w ∈ wsX0_bottomBefore := by decide +kernel
  have w2 := hts (.fieldLink RX0 18 "SternDesk$Expansion" "bottoms" "[I") (by decide +kernel)
  obtain ⟨Qf, hQf⟩ : ∃ f : Int32 → State → Prop, f = fun z => MQ below (va_Qi (fun (r : Int32) (_ : Unit) => r = z) (fun _ _ => True) A) ([.ref h].toArray) s 0 0 A := ⟨_, rfl⟩
  suffices hgo : W p l e (headSpec wsX0_bottomBefore ({ frames := 0, cells := 0, slots := 0, locals := 0 })).room s m ([.ref h].toArray) below meth c s.heap [] 0 0 (Qf rv) (entryFrame m ([.ref h].toArray) 1) by rw [hQf] at hgo; exact hgo
  have hl := lv_entry ([.ref h]) (n := 1) (Nat.le_of_ble_eq_true rfl)
  rw [lg_entry_eq]
  generalize (lg_sl ([.ref h]) ++ List.replicate (1 - (lg_sl ([.ref h])).length) Slot.unset).toArray = ls at hl ⊢
  have hl : lv_has ls 1 [(0, .ref h)] := hl
  unfold fX0_bottomBefore at hf
  refine lv_aload_n hx hb dX0_bottomBefore_0 rfl (lv_at hl 0 rfl) ?_
  refine va_get (D := G) (ci := 0) (v := .int cn) (C := RX0) (T := TX0) (N := 4) hx hb hts hinX0 hown hK.1 hP 0 rfl rfl 3 (by decide) w0 (fun _ h9 => h9) rfl dX0_bottomBefore_1 ?_
  refine lv_if_le (tgt := 21) hx hb dX0_bottomBefore_4 (by decide) (fun c4 => ?_) (fun c4 => ?_)
  · have hf := it_t c4 hf
    refine lv_iconst (v := 1) hx hb dX0_bottomBefore_21 (by decide) ?_
    refine qf_s (Qf := Qf) hf ?_
    rw [hQf]
    exact W.iret hx hb hr (fun t ht hW => ⟨⟨_, (), rfl, rfl, trivial⟩, hS.F ht⟩) hS.2.2 dX0_bottomBefore_22
  · have hf := it_f c4 hf
    refine lv_aload_n hx hb dX0_bottomBefore_7 rfl (lv_at hl 0 rfl) ?_
    refine va_get (D := G) (ci := 0) (v := .ref a3) (C := RX0) (T := TX0) (N := 4) hx hb hts hinX0 hown hK.1 hP 0 rfl rfl 2 (by decide) w2 (fun _ h9 => h9) rfl dX0_bottomBefore_8 ?_
    refine lv_aload_n hx hb dX0_bottomBefore_11 rfl (lv_at hl 0 rfl) ?_
    refine va_get (D := G) (ci := 0) (v := .int cn) (C := RX0) (T := TX0) (N := 4) hx hb hts hinX0 hown hK.1 hP 0 rfl rfl 3 (by decide) w0 (fun _ h9 => h9) rfl dX0_bottomBefore_12 ?_
    refine lv_iconst (v := 1) hx hb dX0_bottomBefore_15 (by decide) ?_
    refine lv_isub hx hb dX0_bottomBefore_16 ?_
    obtain ⟨hi17, hf⟩ := ckI_s hf
    refine va_iald hx hb hK.1 hP 3 0 rfl rfl hi17 dX0_bottomBefore_17 ?_
    refine lv_goto (tgt := 22) hx hb dX0_bottomBefore_18 (by decide) ?_
    refine qf_s (Qf := Qf) hf ?_
    rw [hQf]
    exact W.iret hx hb hr (fun t ht hW => ⟨⟨_, (), rfl, rfl, trivial⟩, hS.F ht⟩) hS.2.2 dX0_bottomBefore_22
def fX0_startAnew (ts : Nat → Int32) (bs : Nat → Int32) (cn : Int32) : Option ((Nat → Int32) × (Nat → Int32) × Int32) :=
  ckI 0 33 <|
  nm (upd ts (Int32.toNatClampNeg 0) 1) fun ts11 =>
  ckI 0 33 <|
  nm (upd bs (Int32.toNatClampNeg 0) 0) fun bs18 =>
  some (ts11, bs18, 0)
set_option maxHeartbeats 4000000 in
set_option maxRecDepth 100000 in
theorem zX0_startAnew (l : Launch) (G : va_G) (cI : ClassId) (sz : Nat) (h a1 a2 a3 : Nat) (qs : Nat → Int32) (ts : Nat → Int32) (bs : Nat → Int32) (cn : Int32) {o_ts : Nat → Int32} {o_bs : Nat → Int32} {o_cn : Int32} (hf : fX0_startAnew ts bs cn = some (o_ts, o_bs, o_cn)) : mMv l yX0_startAnew wsX0_startAnew ({ frames := 0, cells := 0, slots := 0, locals := 0 }) [.ref h] G cI [(h, .inr (0, [.ref a1, .ref a2, .ref a3, .int cn])), (a1, .inl (cI, 32, .inl qs)), (a2, .inl (cI, 33, .inl ts)), (a3, .inl (cI, 33, .inl bs))] sz [(h, .inr (0, [.ref a1, .ref a2, .ref a3, .int o_cn])), (a1, .inl (cI, 32, .inl qs)), (a2, .inl (cI, 33, .inl o_ts)), (a3, .inl (cI, 33, .inl o_bs))] 0 0 := by
  refine Met.ofW (cc := cX0_startAnew) (maxL := 1) (ret := none) (by decide) rfl ?_
  intro p e s m args below meth c s₁ B hml hv
  obtain ⟨rfl, hsz, hP, hK, hD0⟩ := hv
  have hx := B.exec
  have hb := B.bytes
  have hr := B.returns
  have hts := atoms_spec (ws := wsX0_startAnew) B.pre
  have hown : s.vm.findClass RX0 = some m.cls := findClass_of_methodNamed B.named
  have hlocks := B.notSynchronized
  subst hsz
  have hD := hD0.self (sz := s.heap.size)
  generalize hAe : va_A [(h, .inr (0, [.ref a1, .ref a2, .ref a3, .int cn])), (a1, .inl (cI, 32, .inl qs)), (a2, .inl (cI, 33, .inl ts)), (a3, .inl (cI, 33, .inl bs))] s.heap.size = A at hD ⊢
  have hA : ∀ q : Nat, s.heap.size ≤ q → A q := fun q h => by rw [← hAe]; exact Or.inr h
  have hS : va_S A s.heap s.heap [] := va_S.rf
  have w0 := hts (.fieldLink RX0 21 "SternDesk$Expansion" "count" "I") (by decide +kernel)
  have hinX0 : ∀ w ∈ u_ws RX0 TX0 4, w ∈ wsX0_startAnew := by decide +kernel
  have w2 := hts (.fieldLink RX0 15 "SternDesk$Expansion" "tops" "[I") (by decide +kernel)
  have w3 := hts (.fieldLink RX0 18 "SternDesk$Expansion" "bottoms" "[I") (by decide +kernel)
  obtain ⟨Qf, hQf⟩ : ∃ f : ((Nat → Int32) × (Nat → Int32) × Int32) → State → Prop, f = fun z => MQ below (va_Qv (fun (_ : Unit) => True) (fun _ t => va_P G vwCl [(h, .inr (0, [.ref a1, .ref a2, .ref a3, .int z.2.2])), (a1, .inl (cI, 32, .inl qs)), (a2, .inl (cI, 33, .inl z.1)), (a3, .inl (cI, 33, .inl z.2.1))] t.heap ∧ va_D A [(h, .inr (0, [.ref a1, .ref a2, .ref a3, .int z.2.2])), (a1, .inl (cI, 32, .inl qs)), (a2, .inl (cI, 33, .inl z.1)), (a3, .inl (cI, 33, .inl z.2.1))]) A) ([.ref h].toArray) s 0 0 A := ⟨_, rfl⟩
  suffices hgo : W p l e (headSpec wsX0_startAnew ({ frames := 0, cells := 0, slots := 0, locals := 0 })).room s m ([.ref h].toArray) below meth c s.heap [] 0 0 (Qf (o_ts, o_bs, o_cn)) (entryFrame m ([.ref h].toArray) 1) by rw [hQf] at hgo; exact hgo
  have hl := lv_entry ([.ref h]) (n := 1) (Nat.le_of_ble_eq_true rfl)
  rw [lg_entry_eq]
  generalize (lg_sl ([.ref h]) ++ List.replicate (1 - (lg_sl ([.ref h])).length) Slot.unset).toArray = ls at hl ⊢
  have hl : lv_has ls 1 [(0, .ref h)] := hl
  unfold fX0_startAnew at hf
  refine lv_aload_n hx hb dX0_startAnew_0 rfl (lv_at hl 0 rfl) ?_
  refine lv_iconst (v := 0) hx hb dX0_startAnew_1 (by decide) ?_
  refine va_put (D := G) (ci := 0) (v := .int 0) (ty := .int) (C := RX0) (T := TX0) (N := 4) hx hb hts hinX0 tyX0 tyX0_ok nmX0 hown hK.1 hP hD hS 0 rfl rfl 3 (by decide) w0 (fun _ h9 => h9) rfl (by decide +kernel) rfl rfl (Nat.le_of_ble_eq_true rfl) dX0_startAnew_2 (fun H locs hP hD hS => ?_)
  have hP : va_P G vwCl [(h, .inr (0, [.ref a1, .ref a2, .ref a3, .int 0])), (a1, .inl (cI, 32, .inl qs)), (a2, .inl (cI, 33, .inl ts)), (a3, .inl (cI, 33, .inl bs))] H := hP
  have hD : va_D A [(h, .inr (0, [.ref a1, .ref a2, .ref a3, .int 0])), (a1, .inl (cI, 32, .inl qs)), (a2, .inl (cI, 33, .inl ts)), (a3, .inl (cI, 33, .inl bs))] := hD
  refine lv_aload_n hx hb dX0_startAnew_5 rfl (lv_at hl 0 rfl) ?_
  refine va_get (D := G) (ci := 0) (v := .ref a2) (C := RX0) (T := TX0) (N := 4) hx hb hts hinX0 hown hK.1 hP 0 rfl rfl 1 (by decide) w2 (fun _ h9 => h9) rfl dX0_startAnew_6 ?_
  refine lv_iconst (v := 0) hx hb dX0_startAnew_9 (by decide) ?_
  refine lv_iconst (v := 1) hx hb dX0_startAnew_10 (by decide) ?_
  obtain ⟨hi11, hf⟩ := ckI_s hf
  refine va_iast hx hb hK.1 hP hD hS 2 0 rfl rfl hi11 dX0_startAnew_11 (fun H locs hP hD hS => ?_)
  obtain ⟨ts11, ets11⟩ : ∃ z : Nat → Int32, z = upd ts (Int32.toNatClampNeg 0) 1 := ⟨_, rfl⟩
  have hf := nm_s ets11 hf
  rw [← ets11] at hP hD
  have hP : va_P G vwCl [(h, .inr (0, [.ref a1, .ref a2, .ref a3, .int 0])), (a1, .inl (cI, 32, .inl qs)), (a2, .inl (cI, 33, .inl ts11)), (a3, .inl (cI, 33, .inl bs))] H := hP
  have hD : va_D A [(h, .inr (0, [.ref a1, .ref a2, .ref a3, .int 0])), (a1, .inl (cI, 32, .inl qs)), (a2, .inl (cI, 33, .inl ts11)), (a3, .inl (cI, 33, .inl bs))] := hD
  refine lv_aload_n hx hb dX0_startAnew_12 rfl (lv_at hl 0 rfl) ?_
  refine va_get (D := G) (ci := 0) (v := .ref a3) (C := RX0) (T := TX0) (N := 4) hx hb hts hinX0 hown hK.1 hP 0 rfl rfl 2 (by decide) w3 (fun _ h9 => h9) rfl dX0_startAnew_13 ?_
  refine lv_iconst (v := 0) hx hb dX0_startAnew_16 (by decide) ?_
  refine lv_iconst (v := 0) hx hb dX0_startAnew_17 (by decide) ?_
  obtain ⟨hi18, hf⟩ := ckI_s hf
  refine va_iast hx hb hK.1 hP hD hS 3 0 rfl rfl hi18 dX0_startAnew_18 (fun H locs hP hD hS => ?_)
  obtain ⟨bs18, ebs18⟩ : ∃ z : Nat → Int32, z = upd bs (Int32.toNatClampNeg 0) 0 := ⟨_, rfl⟩
  have hf := nm_s ebs18 hf
  rw [← ebs18] at hP hD
  have hP : va_P G vwCl [(h, .inr (0, [.ref a1, .ref a2, .ref a3, .int 0])), (a1, .inl (cI, 32, .inl qs)), (a2, .inl (cI, 33, .inl ts11)), (a3, .inl (cI, 33, .inl bs18))] H := hP
  have hD : va_D A [(h, .inr (0, [.ref a1, .ref a2, .ref a3, .int 0])), (a1, .inl (cI, 32, .inl qs)), (a2, .inl (cI, 33, .inl ts11)), (a3, .inl (cI, 33, .inl bs18))] := hD
  refine qf_s (Qf := Qf) hf ?_
  have hP9 : va_P G vwCl [(h, .inr (0, [.ref a1, .ref a2, .ref a3, .int 0])), (a1, .inl (cI, 32, .inl qs)), (a2, .inl (cI, 33, .inl ts11)), (a3, .inl (cI, 33, .inl bs18))] _ := hP.sub [0, 1, 2, 3] rfl
  have hD9 : va_D A [(h, .inr (0, [.ref a1, .ref a2, .ref a3, .int 0])), (a1, .inl (cI, 32, .inl qs)), (a2, .inl (cI, 33, .inl ts11)), (a3, .inl (cI, 33, .inl bs18))] := hD.sub [0, 1, 2, 3] (by decide) rfl
  rw [hQf]
  exact W.vret hx hb hr (fun t ht hW => ⟨⟨(), rfl, trivial, by rw [ht]; exact hP9, hD9⟩, hS.F ht⟩) hS.2.2 dX0_startAnew_19
def fX0_addTerm (qs : Nat → Int32) (ts : Nat → Int32) (bs : Nat → Int32) (cn : Int32) (p1 : Int32) : Option ((Nat → Int32) × (Nat → Int32) × (Nat → Int32) × Int32) :=
  if cn < 32 then
    bd1 (fX0_top ts cn) fun r12 =>
    bd1 (fX0_topBefore ts cn) fun r17 =>
    nm ((p1 * r12) + r17) fun v21 =>
    bd1 (fX0_bottom bs cn) fun r24 =>
    bd1 (fX0_bottomBefore bs cn) fun r29 =>
    nm ((p1 * r24) + r29) fun v33 =>
    ckI cn 32 <|
    nm (upd qs (Int32.toNatClampNeg cn) p1) fun qs43 =>
    nm (cn + 1) fun v51 =>
    ckI v51 33 <|
    nm (upd ts (Int32.toNatClampNeg v51) v21) fun ts63 =>
    ckI v51 33 <|
    nm (upd bs (Int32.toNatClampNeg v51) v33) fun bs73 =>
    some (qs43, ts63, bs73, v51)
  else
    some (qs, ts, bs, cn)
set_option maxHeartbeats 4000000 in
set_option maxRecDepth 100000 in
theorem zX0_addTerm (l : Launch) (G : va_G) (cI : ClassId) (sz : Nat) (h a1 a2 a3 : Nat) (qs : Nat → Int32) (ts : Nat → Int32) (bs : Nat → Int32) (cn : Int32) (p1 : Int32) {o_qs : Nat → Int32} {o_ts : Nat → Int32} {o_bs : Nat → Int32} {o_cn : Int32} (hf : fX0_addTerm qs ts bs cn p1 = some (o_qs, o_ts, o_bs, o_cn)) : mMv l yX0_addTerm wsX0_addTerm ({ frames := 1, cells := 0, slots := 0, locals := 20 }) [.ref h, .int p1] G cI [(h, .inr (0, [.ref a1, .ref a2, .ref a3, .int cn])), (a1, .inl (cI, 32, .inl qs)), (a2, .inl (cI, 33, .inl ts)), (a3, .inl (cI, 33, .inl bs))] sz [(h, .inr (0, [.ref a1, .ref a2, .ref a3, .int o_cn])), (a1, .inl (cI, 32, .inl o_qs)), (a2, .inl (cI, 33, .inl o_ts)), (a3, .inl (cI, 33, .inl o_bs))] 0 0 := by
  refine Met.ofW (cc := cX0_addTerm) (maxL := 4) (ret := none) (by decide) rfl ?_
  intro p e s m args below meth c s₁ B hml hv
  obtain ⟨rfl, hsz, hP, hK, hD0⟩ := hv
  have hx := B.exec
  have hb := B.bytes
  have hr := B.returns
  have hts := atoms_spec (ws := wsX0_addTerm) B.pre
  have hown : s.vm.findClass RX0 = some m.cls := findClass_of_methodNamed B.named
  have hlocks := B.notSynchronized
  subst hsz
  have hD := hD0.self (sz := s.heap.size)
  generalize hAe : va_A [(h, .inr (0, [.ref a1, .ref a2, .ref a3, .int cn])), (a1, .inl (cI, 32, .inl qs)), (a2, .inl (cI, 33, .inl ts)), (a3, .inl (cI, 33, .inl bs))] s.heap.size = A at hD ⊢
  have hA : ∀ q : Nat, s.heap.size ≤ q → A q := fun q h => by rw [← hAe]; exact Or.inr h
  have hS : va_S A s.heap s.heap [] := va_S.rf
  have w0 := hts (.fieldLink RX0 21 "SternDesk$Expansion" "count" "I") (by decide +kernel)
  have hinX0 : ∀ w ∈ u_ws RX0 TX0 4, w ∈ wsX0_addTerm := by decide +kernel
  have w2 := hts (.fieldLink RX0 9 "SternDesk$Expansion" "quotients" "[I") (by decide +kernel)
  have w3 := hts (.fieldLink RX0 15 "SternDesk$Expansion" "tops" "[I") (by decide +kernel)
  have w4 := hts (.fieldLink RX0 18 "SternDesk$Expansion" "bottoms" "[I") (by decide +kernel)
  obtain ⟨Qf, hQf⟩ : ∃ f : ((Nat → Int32) × (Nat → Int32) × (Nat → Int32) × Int32) → State → Prop, f = fun z => MQ below (va_Qv (fun (_ : Unit) => True) (fun _ t => va_P G vwCl [(h, .inr (0, [.ref a1, .ref a2, .ref a3, .int z.2.2.2])), (a1, .inl (cI, 32, .inl z.1)), (a2, .inl (cI, 33, .inl z.2.1)), (a3, .inl (cI, 33, .inl z.2.2.1))] t.heap ∧ va_D A [(h, .inr (0, [.ref a1, .ref a2, .ref a3, .int z.2.2.2])), (a1, .inl (cI, 32, .inl z.1)), (a2, .inl (cI, 33, .inl z.2.1)), (a3, .inl (cI, 33, .inl z.2.2.1))]) A) ([.ref h, .int p1].toArray) s 0 0 A := ⟨_, rfl⟩
  suffices hgo : W p l e (headSpec wsX0_addTerm ({ frames := 1, cells := 0, slots := 0, locals := 20 })).room s m ([.ref h, .int p1].toArray) below meth c s.heap [] 0 0 (Qf (o_qs, o_ts, o_bs, o_cn)) (entryFrame m ([.ref h, .int p1].toArray) 4) by rw [hQf] at hgo; exact hgo
  have hl := lv_entry ([.ref h, .int p1]) (n := 4) (Nat.le_of_ble_eq_true rfl)
  rw [lg_entry_eq]
  generalize (lg_sl ([.ref h, .int p1]) ++ List.replicate (4 - (lg_sl ([.ref h, .int p1])).length) Slot.unset).toArray = ls at hl ⊢
  have hl : lv_has ls 4 [(0, .ref h), (1, .int p1)] := hl
  unfold fX0_addTerm at hf
  refine lv_aload_n hx hb dX0_addTerm_0 rfl (lv_at hl 0 rfl) ?_
  refine va_get (D := G) (ci := 0) (v := .int cn) (C := RX0) (T := TX0) (N := 4) hx hb hts hinX0 hown hK.1 hP 0 rfl rfl 3 (by decide) w0 (fun _ h9 => h9) rfl dX0_addTerm_1 ?_
  refine lv_bipush (v := 32) hx hb dX0_addTerm_4 (by decide) ?_
  refine lv_icmp_lt (tgt := 10) hx hb dX0_addTerm_6 (by decide) (fun c6 => ?_) (fun c6 => ?_)
  · have hf := it_t c6 hf
    refine lv_iload_n hx hb dX0_addTerm_10 rfl (lv_at hl 1 rfl) ?_
    refine lv_aload_n hx hb dX0_addTerm_11 rfl (lv_at hl 0 rfl) ?_
    obtain ⟨r12, hv12, hf⟩ := bd1_s hf
    refine roVi (As := []) (rest := [.int p1]) ⟨hx, hb, hml, hown, hts⟩ (zX0_top l G cI _ h a1 a2 a3 qs ts bs cn  hv12) (cwV 0 hts gX0_addTerm_X0_top rfl rfl rfl (by decide +kernel) ⟨Nat.le_of_ble_eq_true rfl, Nat.le_of_ble_eq_true rfl⟩) hK hP (hP.sub [0, 1, 2, 3] rfl) rfl rfl rfl hl.1 rfl (Nat.le_of_ble_eq_true rfl) dX0_addTerm_12 ⟨Nat.le_of_ble_eq_true rfl, Nat.le_of_ble_eq_true rfl⟩ hS hA (fun H locs hP hz12 hS => ?_)
    refine lv_imul hx hb dX0_addTerm_15 ?_
    refine lv_aload_n hx hb dX0_addTerm_16 rfl (lv_at hl 0 rfl) ?_
    obtain ⟨r17, hv17, hf⟩ := bd1_s hf
    refine roVi (As := []) (rest := [.int (p1 * r12)]) ⟨hx, hb, hml, hown, hts⟩ (zX0_topBefore l G cI _ h a1 a2 a3 qs ts bs cn  hv17) (cwV 0 hts gX0_addTerm_X0_topBefore rfl rfl rfl (by decide +kernel) ⟨Nat.le_of_ble_eq_true rfl, Nat.le_of_ble_eq_true rfl⟩) hK hP (hP.sub [0, 1, 2, 3] rfl) rfl rfl rfl hl.1 rfl (Nat.le_of_ble_eq_true rfl) dX0_addTerm_17 ⟨Nat.le_of_ble_eq_true rfl, Nat.le_of_ble_eq_true rfl⟩ hS hA (fun H locs hP hz17 hS => ?_)
    refine lv_iadd hx hb dX0_addTerm_20 ?_
    refine lv_topi (fun v21 ev21 => ?_)
    have hf := nm_s ev21 hf
    refine lv_istore_n (lv' := [(2, .int v21), (0, .ref h), (1, .int p1)]) hx hb dX0_addTerm_21 rfl hl (by decide) rfl (fun ls hl => ?_)
    refine lv_iload_n hx hb dX0_addTerm_22 rfl (lv_at hl 2 rfl) ?_
    refine lv_aload_n hx hb dX0_addTerm_23 rfl (lv_at hl 1 rfl) ?_
    obtain ⟨r24, hv24, hf⟩ := bd1_s hf
    refine roVi (As := []) (rest := [.int p1]) ⟨hx, hb, hml, hown, hts⟩ (zX0_bottom l G cI _ h a1 a2 a3 qs ts bs cn  hv24) (cwV 0 hts gX0_addTerm_X0_bottom rfl rfl rfl (by decide +kernel) ⟨Nat.le_of_ble_eq_true rfl, Nat.le_of_ble_eq_true rfl⟩) hK hP (hP.sub [0, 1, 2, 3] rfl) rfl rfl rfl hl.1 rfl (Nat.le_of_ble_eq_true rfl) dX0_addTerm_24 ⟨Nat.le_of_ble_eq_true rfl, Nat.le_of_ble_eq_true rfl⟩ hS hA (fun H locs hP hz24 hS => ?_)
    refine lv_imul hx hb dX0_addTerm_27 ?_
    refine lv_aload_n hx hb dX0_addTerm_28 rfl (lv_at hl 1 rfl) ?_
    obtain ⟨r29, hv29, hf⟩ := bd1_s hf
    refine roVi (As := []) (rest := [.int (p1 * r24)]) ⟨hx, hb, hml, hown, hts⟩ (zX0_bottomBefore l G cI _ h a1 a2 a3 qs ts bs cn  hv29) (cwV 0 hts gX0_addTerm_X0_bottomBefore rfl rfl rfl (by decide +kernel) ⟨Nat.le_of_ble_eq_true rfl, Nat.le_of_ble_eq_true rfl⟩) hK hP (hP.sub [0, 1, 2, 3] rfl) rfl rfl rfl hl.1 rfl (Nat.le_of_ble_eq_true rfl) dX0_addTerm_29 ⟨Nat.le_of_ble_eq_true rfl, Nat.le_of_ble_eq_true rfl⟩ hS hA (fun H locs hP hz29 hS => ?_)
    refine lv_iadd hx hb dX0_addTerm_32 ?_
    refine lv_topi (fun v33 ev33 => ?_)
    have hf := nm_s ev33 hf
    refine lv_istore_n (lv' := [(3, .int v33), (2, .int v21), (0, .ref h), (1, .int p1)]) hx hb dX0_addTerm_33 rfl hl (by decide) rfl (fun ls hl => ?_)
    refine lv_aload_n hx hb dX0_addTerm_34 rfl (lv_at hl 2 rfl) ?_
    refine va_get (D := G) (ci := 0) (v := .ref a1) (C := RX0) (T := TX0) (N := 4) hx hb hts hinX0 hown hK.1 hP 0 rfl rfl 0 (by decide) w2 (fun _ h9 => h9) rfl dX0_addTerm_35 ?_
    refine lv_aload_n hx hb dX0_addTerm_38 rfl (lv_at hl 2 rfl) ?_
    refine va_get (D := G) (ci := 0) (v := .int cn) (C := RX0) (T := TX0) (N := 4) hx hb hts hinX0 hown hK.1 hP 0 rfl rfl 3 (by decide) w0 (fun _ h9 => h9) rfl dX0_addTerm_39 ?_
    refine lv_iload_n hx hb dX0_addTerm_42 rfl (lv_at hl 3 rfl) ?_
    obtain ⟨hi43, hf⟩ := ckI_s hf
    refine va_iast hx hb hK.1 hP hD hS 1 0 rfl rfl hi43 dX0_addTerm_43 (fun H locs hP hD hS => ?_)
    obtain ⟨qs43, eqs43⟩ : ∃ z : Nat → Int32, z = upd qs (Int32.toNatClampNeg cn) p1 := ⟨_, rfl⟩
    have hf := nm_s eqs43 hf
    rw [← eqs43] at hP hD
    have hP : va_P G vwCl [(h, .inr (0, [.ref a1, .ref a2, .ref a3, .int cn])), (a1, .inl (cI, 32, .inl qs43)), (a2, .inl (cI, 33, .inl ts)), (a3, .inl (cI, 33, .inl bs))] H := hP
    have hD : va_D A [(h, .inr (0, [.ref a1, .ref a2, .ref a3, .int cn])), (a1, .inl (cI, 32, .inl qs43)), (a2, .inl (cI, 33, .inl ts)), (a3, .inl (cI, 33, .inl bs))] := hD
    refine lv_aload_n hx hb dX0_addTerm_44 rfl (lv_at hl 2 rfl) ?_
    refine lv_dup hx hb dX0_addTerm_45 rfl ?_
    refine va_get (D := G) (ci := 0) (v := .int cn) (C := RX0) (T := TX0) (N := 4) hx hb hts hinX0 hown hK.1 hP 0 rfl rfl 3 (by decide) w0 (fun _ h9 => h9) rfl dX0_addTerm_46 ?_
    refine lv_iconst (v := 1) hx hb dX0_addTerm_49 (by decide) ?_
    refine lv_iadd hx hb dX0_addTerm_50 ?_
    refine lv_topi (fun v51 ev51 => ?_)
    have hf := nm_s ev51 hf
    refine va_put (D := G) (ci := 0) (v := .int v51) (ty := .int) (C := RX0) (T := TX0) (N := 4) hx hb hts hinX0 tyX0 tyX0_ok nmX0 hown hK.1 hP hD hS 0 rfl rfl 3 (by decide) w0 (fun _ h9 => h9) rfl (by decide +kernel) rfl rfl (Nat.le_of_ble_eq_true rfl) dX0_addTerm_51 (fun H locs hP hD hS => ?_)
    have hP : va_P G vwCl [(h, .inr (0, [.ref a1, .ref a2, .ref a3, .int v51])), (a1, .inl (cI, 32, .inl qs43)), (a2, .inl (cI, 33, .inl ts)), (a3, .inl (cI, 33, .inl bs))] H := hP
    have hD : va_D A [(h, .inr (0, [.ref a1, .ref a2, .ref a3, .int v51])), (a1, .inl (cI, 32, .inl qs43)), (a2, .inl (cI, 33, .inl ts)), (a3, .inl (cI, 33, .inl bs))] := hD
    refine lv_aload_n hx hb dX0_addTerm_54 rfl (lv_at hl 2 rfl) ?_
    refine va_get (D := G) (ci := 0) (v := .ref a2) (C := RX0) (T := TX0) (N := 4) hx hb hts hinX0 hown hK.1 hP 0 rfl rfl 1 (by decide) w3 (fun _ h9 => h9) rfl dX0_addTerm_55 ?_
    refine lv_aload_n hx hb dX0_addTerm_58 rfl (lv_at hl 2 rfl) ?_
    refine va_get (D := G) (ci := 0) (v := .int v51) (C := RX0) (T := TX0) (N := 4) hx hb hts hinX0 hown hK.1 hP 0 rfl rfl 3 (by decide) w0 (fun _ h9 => h9) rfl dX0_addTerm_59 ?_
    refine lv_iload_n hx hb dX0_addTerm_62 rfl (lv_at hl 1 rfl) ?_
    obtain ⟨hi63, hf⟩ := ckI_s hf
    refine va_iast hx hb hK.1 hP hD hS 2 0 rfl rfl hi63 dX0_addTerm_63 (fun H locs hP hD hS => ?_)
    obtain ⟨ts63, ets63⟩ : ∃ z : Nat → Int32, z = upd ts (Int32.toNatClampNeg v51) v21 := ⟨_, rfl⟩
    have hf := nm_s ets63 hf
    rw [← ets63] at hP hD
    have hP : va_P G vwCl [(h, .inr (0, [.ref a1, .ref a2, .ref a3, .int v51])), (a1, .inl (cI, 32, .inl qs43)), (a2, .inl (cI, 33, .inl ts63)), (a3, .inl (cI, 33, .inl bs))] H := hP
    have hD : va_D A [(h, .inr (0, [.ref a1, .ref a2, .ref a3, .int v51])), (a1, .inl (cI, 32, .inl qs43)), (a2, .inl (cI, 33, .inl ts63)), (a3, .inl (cI, 33, .inl bs))] := hD
    refine lv_aload_n hx hb dX0_addTerm_64 rfl (lv_at hl 2 rfl) ?_
    refine va_get (D := G) (ci := 0) (v := .ref a3) (C := RX0) (T := TX0) (N := 4) hx hb hts hinX0 hown hK.1 hP 0 rfl rfl 2 (by decide) w4 (fun _ h9 => h9) rfl dX0_addTerm_65 ?_
    refine lv_aload_n hx hb dX0_addTerm_68 rfl (lv_at hl 2 rfl) ?_
    refine va_get (D := G) (ci := 0) (v := .int v51) (C := RX0) (T := TX0) (N := 4) hx hb hts hinX0 hown hK.1 hP 0 rfl rfl 3 (by decide) w0 (fun _ h9 => h9) rfl dX0_addTerm_69 ?_
    refine lv_iload_n hx hb dX0_addTerm_72 rfl (lv_at hl 0 rfl) ?_
    obtain ⟨hi73, hf⟩ := ckI_s hf
    refine va_iast hx hb hK.1 hP hD hS 3 0 rfl rfl hi73 dX0_addTerm_73 (fun H locs hP hD hS => ?_)
    obtain ⟨bs73, ebs73⟩ : ∃ z : Nat → Int32, z = upd bs (Int32.toNatClampNeg v51) v33 := ⟨_, rfl⟩
    have hf := nm_s ebs73 hf
    rw [← ebs73] at hP hD
    have hP : va_P G vwCl [(h, .inr (0, [.ref a1, .ref a2, .ref a3, .int v51])), (a1, .inl (cI, 32, .inl qs43)), (a2, .inl (cI, 33, .inl ts63)), (a3, .inl (cI, 33, .inl bs73))] H := hP
    have hD : va_D A [(h, .inr (0, [.ref a1, .ref a2, .ref a3, .int v51])), (a1, .inl (cI, 32, .inl qs43)), (a2, .inl (cI, 33, .inl ts63)), (a3, .inl (cI, 33, .inl bs73))] := hD
    refine qf_s (Qf := Qf) hf ?_
    have hP9 : va_P G vwCl [(h, .inr (0, [.ref a1, .ref a2, .ref a3, .int v51])), (a1, .inl (cI, 32, .inl qs43)), (a2, .inl (cI, 33, .inl ts63)), (a3, .inl (cI, 33, .inl bs73))] _ := hP.sub [0, 1, 2, 3] rfl
    have hD9 : va_D A [(h, .inr (0, [.ref a1, .ref a2, .ref a3, .int v51])), (a1, .inl (cI, 32, .inl qs43)), (a2, .inl (cI, 33, .inl ts63)), (a3, .inl (cI, 33, .inl bs73))] := hD.sub [0, 1, 2, 3] (by decide) rfl
    rw [hQf]
    exact W.vret hx hb hr (fun t ht hW => ⟨⟨(), rfl, trivial, by rw [ht]; exact hP9, hD9⟩, hS.F ht⟩) hS.2.2 dX0_addTerm_74
  · have hf := it_f c6 hf
    refine qf_s (Qf := Qf) hf ?_
    have hP9 : va_P G vwCl [(h, .inr (0, [.ref a1, .ref a2, .ref a3, .int cn])), (a1, .inl (cI, 32, .inl qs)), (a2, .inl (cI, 33, .inl ts)), (a3, .inl (cI, 33, .inl bs))] _ := hP.sub [0, 1, 2, 3] rfl
    have hD9 : va_D A [(h, .inr (0, [.ref a1, .ref a2, .ref a3, .int cn])), (a1, .inl (cI, 32, .inl qs)), (a2, .inl (cI, 33, .inl ts)), (a3, .inl (cI, 33, .inl bs))] := hD.sub [0, 1, 2, 3] (by decide) rfl
    rw [hQf]
    exact W.vret hx hb hr (fun t ht hW => ⟨⟨(), rfl, trivial, by rw [ht]; exact hP9, hD9⟩, hS.F ht⟩) hS.2.2 dX0_addTerm_9
def fX0_expand_B12 (k12 : (Nat → Int32) → (Nat → Int32) → (Nat → Int32) → Int32 → Int32 → Int32 → Int32 → Option ((Nat → Int32) × (Nat → Int32) × (Nat → Int32) × Int32)) (qs : Nat → Int32) (ts : Nat → Int32) (bs : Nat → Int32) (cn : Int32) (x3 : Int32) (x4 : Int32) (x5 : Int32) : Option ((Nat → Int32) × (Nat → Int32) × (Nat → Int32) × Int32) :=
  if 32 ≤ x5 then
    some (qs, ts, bs, cn)
  else
    if x4 ≤ 0 then
      some (qs, ts, bs, cn)
    else
      ckZ x4 <|
      nm (x3 / x4) fun v28 =>
      nm (x3 - (v28 * x4)) fun v37 =>
      bd4 (fX0_addTerm qs ts bs cn v28) fun qs_42 ts_42 bs_42 cn_42 =>
      nm (x5 + 1) fun v52 =>
      k12 qs_42 ts_42 bs_42 cn_42 x4 v37 v52
def fX0_expand_L12 : Nat → (Nat → Int32) → (Nat → Int32) → (Nat → Int32) → Int32 → Int32 → Int32 → Int32 → Option ((Nat → Int32) × (Nat → Int32) × (Nat → Int32) × Int32)
  | 0, _, _, _, _, _, _, _ => none
  | n + 1, qs, ts, bs, cn, x3, x4, x5 => fX0_expand_B12 (fX0_expand_L12   n)  qs ts bs cn x3 x4 x5
def fX0_expand (qs : Nat → Int32) (ts : Nat → Int32) (bs : Nat → Int32) (cn : Int32) (p1 : Int32) (p2 : Int32) : Option ((Nat → Int32) × (Nat → Int32) × (Nat → Int32) × Int32) :=
  bd3 (fX0_startAnew ts bs cn) fun ts_1 bs_1 cn_1 =>
  fX0_expand_L12   FU qs ts_1 bs_1 cn_1 p1 p2 0
set_option maxHeartbeats 4000000 in
set_option maxRecDepth 100000 in
theorem zX0_expand (l : Launch) (G : va_G) (cI : ClassId) (sz : Nat) (h a1 a2 a3 : Nat) (qs : Nat → Int32) (ts : Nat → Int32) (bs : Nat → Int32) (cn : Int32) (p1 : Int32) (p2 : Int32) {o_qs : Nat → Int32} {o_ts : Nat → Int32} {o_bs : Nat → Int32} {o_cn : Int32} (hf : fX0_expand qs ts bs cn p1 p2 = some (o_qs, o_ts, o_bs, o_cn)) : mMv l yX0_expand wsX0_expand ({ frames := 2, cells := 0, slots := 0, locals := 43 }) [.ref h, .int p1, .int p2] G cI [(h, .inr (0, [.ref a1, .ref a2, .ref a3, .int cn])), (a1, .inl (cI, 32, .inl qs)), (a2, .inl (cI, 33, .inl ts)), (a3, .inl (cI, 33, .inl bs))] sz [(h, .inr (0, [.ref a1, .ref a2, .ref a3, .int o_cn])), (a1, .inl (cI, 32, .inl o_qs)), (a2, .inl (cI, 33, .inl o_ts)), (a3, .inl (cI, 33, .inl o_bs))] 0 0 := by
  refine Met.ofW (cc := cX0_expand) (maxL := 8) (ret := none) (by decide) rfl ?_
  intro p e s m args below meth c s₁ B hml hv
  obtain ⟨rfl, hsz, hP, hK, hD0⟩ := hv
  have hx := B.exec
  have hb := B.bytes
  have hr := B.returns
  have hts := atoms_spec (ws := wsX0_expand) B.pre
  have hown : s.vm.findClass RX0 = some m.cls := findClass_of_methodNamed B.named
  have hlocks := B.notSynchronized
  subst hsz
  have hD := hD0.self (sz := s.heap.size)
  generalize hAe : va_A [(h, .inr (0, [.ref a1, .ref a2, .ref a3, .int cn])), (a1, .inl (cI, 32, .inl qs)), (a2, .inl (cI, 33, .inl ts)), (a3, .inl (cI, 33, .inl bs))] s.heap.size = A at hD ⊢
  have hA : ∀ q : Nat, s.heap.size ≤ q → A q := fun q h => by rw [← hAe]; exact Or.inr h
  have hS : va_S A s.heap s.heap [] := va_S.rf
  obtain ⟨Qf, hQf⟩ : ∃ f : ((Nat → Int32) × (Nat → Int32) × (Nat → Int32) × Int32) → State → Prop, f = fun z => MQ below (va_Qv (fun (_ : Unit) => True) (fun _ t => va_P G vwCl [(h, .inr (0, [.ref a1, .ref a2, .ref a3, .int z.2.2.2])), (a1, .inl (cI, 32, .inl z.1)), (a2, .inl (cI, 33, .inl z.2.1)), (a3, .inl (cI, 33, .inl z.2.2.1))] t.heap ∧ va_D A [(h, .inr (0, [.ref a1, .ref a2, .ref a3, .int z.2.2.2])), (a1, .inl (cI, 32, .inl z.1)), (a2, .inl (cI, 33, .inl z.2.1)), (a3, .inl (cI, 33, .inl z.2.2.1))]) A) ([.ref h, .int p1, .int p2].toArray) s 0 0 A := ⟨_, rfl⟩
  suffices hgo : W p l e (headSpec wsX0_expand ({ frames := 2, cells := 0, slots := 0, locals := 43 })).room s m ([.ref h, .int p1, .int p2].toArray) below meth c s.heap [] 0 0 (Qf (o_qs, o_ts, o_bs, o_cn)) (entryFrame m ([.ref h, .int p1, .int p2].toArray) 8) by rw [hQf] at hgo; exact hgo
  have B12 : ∀ (k12 : (Nat → Int32) → (Nat → Int32) → (Nat → Int32) → Int32 → Int32 → Int32 → Int32 → Option ((Nat → Int32) × (Nat → Int32) × (Nat → Int32) × Int32)) (hk12 : ∀ (qs : Nat → Int32) (ts : Nat → Int32) (bs : Nat → Int32) (cn : Int32) (x3 : Int32) (x4 : Int32) (x5 : Int32) (H : Heap) (locs : List Loc) (ls : Array Slot), k12 qs ts bs cn x3 x4 x5 = some (o_qs, o_ts, o_bs, o_cn) → va_P G vwCl [(h, .inr (0, [.ref a1, .ref a2, .ref a3, .int cn])), (a1, .inl (cI, 32, .inl qs)), (a2, .inl (cI, 33, .inl ts)), (a3, .inl (cI, 33, .inl bs))] H → va_D A [(h, .inr (0, [.ref a1, .ref a2, .ref a3, .int cn])), (a1, .inl (cI, 32, .inl qs)), (a2, .inl (cI, 33, .inl ts)), (a3, .inl (cI, 33, .inl bs))] → va_S A s.heap H locs → lv_has ls 8 [(0, .ref h), (3, .int x3), (4, .int x4), (5, .int x5)] → W p l e (headSpec wsX0_expand ({ frames := 2, cells := 0, slots := 0, locals := 43 })).room s m ([.ref h, .int p1, .int p2].toArray) below meth c H locs 0 0 (Qf (o_qs, o_ts, o_bs, o_cn)) (F0 m 12 ls [])) (qs : Nat → Int32) (ts : Nat → Int32) (bs : Nat → Int32) (cn : Int32) (x3 : Int32) (x4 : Int32) (x5 : Int32) (H : Heap) (locs : List Loc) (ls : Array Slot), fX0_expand_B12 k12  qs ts bs cn x3 x4 x5 = some (o_qs, o_ts, o_bs, o_cn) → va_P G vwCl [(h, .inr (0, [.ref a1, .ref a2, .ref a3, .int cn])), (a1, .inl (cI, 32, .inl qs)), (a2, .inl (cI, 33, .inl ts)), (a3, .inl (cI, 33, .inl bs))] H → va_D A [(h, .inr (0, [.ref a1, .ref a2, .ref a3, .int cn])), (a1, .inl (cI, 32, .inl qs)), (a2, .inl (cI, 33, .inl ts)), (a3, .inl (cI, 33, .inl bs))] → va_S A s.heap H locs → lv_has ls 8 [(0, .ref h), (3, .int x3), (4, .int x4), (5, .int x5)] → W p l e (headSpec wsX0_expand ({ frames := 2, cells := 0, slots := 0, locals := 43 })).room s m ([.ref h, .int p1, .int p2].toArray) below meth c H locs 0 0 (Qf (o_qs, o_ts, o_bs, o_cn)) (F0 m 12 ls []) := by
    intro k12 hk12  qs ts bs cn x3 x4 x5 H locs ls hf hP hD hS hl
    unfold fX0_expand_B12 at hf
    refine lv_iload hx hb dX0_expand_12 (lv_at hl 3 rfl) ?_
    refine lv_bipush (v := 32) hx hb dX0_expand_14 (by decide) ?_
    refine lv_icmp_ge (tgt := 58) hx hb dX0_expand_16 (by decide) (fun c16 => ?_) (fun c16 => ?_)
    · have hf := it_t c16 hf
      refine qf_s (Qf := Qf) hf ?_
      have hP9 : va_P G vwCl [(h, .inr (0, [.ref a1, .ref a2, .ref a3, .int cn])), (a1, .inl (cI, 32, .inl qs)), (a2, .inl (cI, 33, .inl ts)), (a3, .inl (cI, 33, .inl bs))] _ := hP.sub [0, 1, 2, 3] rfl
      have hD9 : va_D A [(h, .inr (0, [.ref a1, .ref a2, .ref a3, .int cn])), (a1, .inl (cI, 32, .inl qs)), (a2, .inl (cI, 33, .inl ts)), (a3, .inl (cI, 33, .inl bs))] := hD.sub [0, 1, 2, 3] (by decide) rfl
      rw [hQf]
      exact W.vret hx hb hr (fun t ht hW => ⟨⟨(), rfl, trivial, by rw [ht]; exact hP9, hD9⟩, hS.F ht⟩) hS.2.2 dX0_expand_58
    · have hf := it_f c16 hf
      refine lv_iload hx hb dX0_expand_19 (lv_at hl 2 rfl) ?_
      refine lv_if_le (tgt := 58) hx hb dX0_expand_21 (by decide) (fun c21 => ?_) (fun c21 => ?_)
      · have hf := it_t c21 hf
        refine qf_s (Qf := Qf) hf ?_
        have hP9 : va_P G vwCl [(h, .inr (0, [.ref a1, .ref a2, .ref a3, .int cn])), (a1, .inl (cI, 32, .inl qs)), (a2, .inl (cI, 33, .inl ts)), (a3, .inl (cI, 33, .inl bs))] _ := hP.sub [0, 1, 2, 3] rfl
        have hD9 : va_D A [(h, .inr (0, [.ref a1, .ref a2, .ref a3, .int cn])), (a1, .inl (cI, 32, .inl qs)), (a2, .inl (cI, 33, .inl ts)), (a3, .inl (cI, 33, .inl bs))] := hD.sub [0, 1, 2, 3] (by decide) rfl
        rw [hQf]
        exact W.vret hx hb hr (fun t ht hW => ⟨⟨(), rfl, trivial, by rw [ht]; exact hP9, hD9⟩, hS.F ht⟩) hS.2.2 dX0_expand_58
      · have hf := it_f c21 hf
        refine lv_iload_n hx hb dX0_expand_24 rfl (lv_at hl 1 rfl) ?_
        refine lv_iload hx hb dX0_expand_25 (lv_at hl 2 rfl) ?_
        obtain ⟨hz27, hf⟩ := ckZ_s hf
        refine lv_idiv hx hb dX0_expand_27 hz27 ?_
        refine lv_topi (fun v28 ev28 => ?_)
        have hf := nm_s ev28 hf
        refine lv_istore (lv' := [(6, .int v28), (0, .ref h), (3, .int x3), (4, .int x4), (5, .int x5)]) hx hb dX0_expand_28 hl (by decide) rfl (fun ls hl => ?_)
        refine lv_iload_n hx hb dX0_expand_30 rfl (lv_at hl 2 rfl) ?_
        refine lv_iload hx hb dX0_expand_31 (lv_at hl 0 rfl) ?_
        refine lv_iload hx hb dX0_expand_33 (lv_at hl 3 rfl) ?_
        refine lv_imul hx hb dX0_expand_35 ?_
        refine lv_isub hx hb dX0_expand_36 ?_
        refine lv_topi (fun v37 ev37 => ?_)
        have hf := nm_s ev37 hf
        refine lv_istore (lv' := [(7, .int v37), (6, .int v28), (0, .ref h), (3, .int x3), (4, .int x4), (5, .int x5)]) hx hb dX0_expand_37 hl (by decide) rfl (fun ls hl => ?_)
        refine lv_aload_n hx hb dX0_expand_39 rfl (lv_at hl 2 rfl) ?_
        refine lv_iload hx hb dX0_expand_40 (lv_at hl 1 rfl) ?_
        obtain ⟨qs_42, ts_42, bs_42, cn_42, hv42, hf⟩ := bd4_s hf
        refine mcVv (As := [.int v28]) (rest := []) (wr := []) (wc := [(h, .inr (0, [.ref a1, .ref a2, .ref a3, .int cn])), (a1, .inl (cI, 32, .inl qs)), (a2, .inl (cI, 33, .inl ts)), (a3, .inl (cI, 33, .inl bs))]) ⟨hx, hb, hml, hown, hts⟩ (zX0_addTerm l G cI _ h a1 a2 a3 qs ts bs cn v28 hv42) (cwV 1 hts gX0_expand_X0_addTerm rfl rfl rfl (by decide +kernel) ⟨Nat.le_of_ble_eq_true rfl, Nat.le_of_ble_eq_true rfl⟩) hK hP hD [0, 1, 2, 3] [] rfl rfl rfl (by decide) (by decide) (by decide) rfl rfl rfl hl.1 rfl (Nat.le_of_ble_eq_true rfl) dX0_expand_42 ⟨Nat.le_of_ble_eq_true rfl, Nat.le_of_ble_eq_true rfl⟩ hS hA (fun H locs hP hD hz42 hS => ?_)
        have hP : va_P G vwCl [(h, .inr (0, [.ref a1, .ref a2, .ref a3, .int cn_42])), (a1, .inl (cI, 32, .inl qs_42)), (a2, .inl (cI, 33, .inl ts_42)), (a3, .inl (cI, 33, .inl bs_42))] H := hP
        have hD : va_D A [(h, .inr (0, [.ref a1, .ref a2, .ref a3, .int cn_42])), (a1, .inl (cI, 32, .inl qs_42)), (a2, .inl (cI, 33, .inl ts_42)), (a3, .inl (cI, 33, .inl bs_42))] := hD
        refine lv_iload hx hb dX0_expand_45 (lv_at hl 4 rfl) ?_
        refine lv_istore_n (lv' := [(3, .int x4), (7, .int v37), (6, .int v28), (0, .ref h), (4, .int x4), (5, .int x5)]) hx hb dX0_expand_47 rfl hl (by decide) rfl (fun ls hl => ?_)
        refine lv_iload hx hb dX0_expand_48 (lv_at hl 1 rfl) ?_
        refine lv_istore (lv' := [(4, .int v37), (3, .int x4), (7, .int v37), (6, .int v28), (0, .ref h), (5, .int x5)]) hx hb dX0_expand_50 hl (by decide) rfl (fun ls hl => ?_)
        obtain ⟨v52, ev52⟩ : ∃ y : Int32, y = x5 + 1 := ⟨_, rfl⟩
        have hf := nm_s ev52 hf
        refine lv_iinc (v := v52) (lv' := [(5, .int v52), (4, .int v37), (3, .int x4), (7, .int v37), (6, .int v28), (0, .ref h)]) hx hb dX0_expand_52 hl (k := 5) rfl (by rw [ev52]; rfl) (by decide) rfl (fun ls hl => ?_)
        refine lv_goto (tgt := 12) hx hb dX0_expand_55 (by decide) ?_
        exact hk12  qs_42 ts_42 bs_42 cn_42 x4 v37 v52 _ _ _ hf hP hD hS (lv_sub hl [5, 2, 1, 0] rfl)
  have L12 : ∀ (fu : Nat) (qs : Nat → Int32) (ts : Nat → Int32) (bs : Nat → Int32) (cn : Int32) (x3 : Int32) (x4 : Int32) (x5 : Int32) (H : Heap) (locs : List Loc) (ls : Array Slot), fX0_expand_L12   fu qs ts bs cn x3 x4 x5 = some (o_qs, o_ts, o_bs, o_cn) → va_P G vwCl [(h, .inr (0, [.ref a1, .ref a2, .ref a3, .int cn])), (a1, .inl (cI, 32, .inl qs)), (a2, .inl (cI, 33, .inl ts)), (a3, .inl (cI, 33, .inl bs))] H → va_D A [(h, .inr (0, [.ref a1, .ref a2, .ref a3, .int cn])), (a1, .inl (cI, 32, .inl qs)), (a2, .inl (cI, 33, .inl ts)), (a3, .inl (cI, 33, .inl bs))] → va_S A s.heap H locs → lv_has ls 8 [(0, .ref h), (3, .int x3), (4, .int x4), (5, .int x5)] → W p l e (headSpec wsX0_expand ({ frames := 2, cells := 0, slots := 0, locals := 43 })).room s m ([.ref h, .int p1, .int p2].toArray) below meth c H locs 0 0 (Qf (o_qs, o_ts, o_bs, o_cn)) (F0 m 12 ls []) := by
    intro  fu
    induction fu with
    | zero => intro  qs ts bs cn x3 x4 x5 H locs ls hf; cases hf
    | succ fu ih => intro  qs ts bs cn x3 x4 x5 H locs ls hf hP hD hS hl; exact B12 (fX0_expand_L12   fu) ih  qs ts bs cn x3 x4 x5 _ _ _ hf hP hD hS hl
  have hl := lv_entry ([.ref h, .int p1, .int p2]) (n := 8) (Nat.le_of_ble_eq_true rfl)
  rw [lg_entry_eq]
  generalize (lg_sl ([.ref h, .int p1, .int p2]) ++ List.replicate (8 - (lg_sl ([.ref h, .int p1, .int p2])).length) Slot.unset).toArray = ls at hl ⊢
  have hl : lv_has ls 8 [(0, .ref h), (1, .int p1), (2, .int p2)] := hl
  unfold fX0_expand at hf
  refine lv_aload_n hx hb dX0_expand_0 rfl (lv_at hl 0 rfl) ?_
  obtain ⟨ts_1, bs_1, cn_1, hv1, hf⟩ := bd3_s hf
  refine mcVv (As := []) (rest := []) (wr := []) (wc := [(h, .inr (0, [.ref a1, .ref a2, .ref a3, .int cn])), (a1, .inl (cI, 32, .inl qs)), (a2, .inl (cI, 33, .inl ts)), (a3, .inl (cI, 33, .inl bs))]) ⟨hx, hb, hml, hown, hts⟩ (zX0_startAnew l G cI _ h a1 a2 a3 qs ts bs cn  hv1) (cwV 0 hts gX0_expand_X0_startAnew rfl rfl rfl (by decide +kernel) ⟨Nat.le_of_ble_eq_true rfl, Nat.le_of_ble_eq_true rfl⟩) hK hP hD [0, 1, 2, 3] [] rfl rfl rfl (by decide) (by decide) (by decide) rfl rfl rfl hl.1 rfl (Nat.le_of_ble_eq_true rfl) dX0_expand_1 ⟨Nat.le_of_ble_eq_true rfl, Nat.le_of_ble_eq_true rfl⟩ hS hA (fun H locs hP hD hz1 hS => ?_)
  have hP : va_P G vwCl [(h, .inr (0, [.ref a1, .ref a2, .ref a3, .int cn_1])), (a1, .inl (cI, 32, .inl qs)), (a2, .inl (cI, 33, .inl ts_1)), (a3, .inl (cI, 33, .inl bs_1))] H := hP
  have hD : va_D A [(h, .inr (0, [.ref a1, .ref a2, .ref a3, .int cn_1])), (a1, .inl (cI, 32, .inl qs)), (a2, .inl (cI, 33, .inl ts_1)), (a3, .inl (cI, 33, .inl bs_1))] := hD
  refine lv_iload_n hx hb dX0_expand_4 rfl (lv_at hl 1 rfl) ?_
  refine lv_istore_n (lv' := [(3, .int p1), (0, .ref h), (1, .int p1), (2, .int p2)]) hx hb dX0_expand_5 rfl hl (by decide) rfl (fun ls hl => ?_)
  refine lv_iload_n hx hb dX0_expand_6 rfl (lv_at hl 3 rfl) ?_
  refine lv_istore (lv' := [(4, .int p2), (3, .int p1), (0, .ref h), (1, .int p1), (2, .int p2)]) hx hb dX0_expand_7 hl (by decide) rfl (fun ls hl => ?_)
  refine lv_iconst (v := 0) hx hb dX0_expand_9 (by decide) ?_
  refine lv_istore (lv' := [(5, .int 0), (4, .int p2), (3, .int p1), (0, .ref h), (1, .int p1), (2, .int p2)]) hx hb dX0_expand_10 hl (by decide) rfl (fun ls hl => ?_)
  exact L12  FU  qs ts_1 bs_1 cn_1 p1 p2 0 _ _ _ hf hP hD hS (lv_sub hl [3, 2, 1, 0] rfl)
def fX0_expandSimplest_J64 (k10 : (Nat → Int32) → (Nat → Int32) → (Nat → Int32) → Int32 → Int32 → Int32 → Int32 → Int32 → Int32 → Int32 → Option ((Nat → Int32) × (Nat → Int32) × (Nat → Int32) × Int32)) (qs : Nat → Int32) (ts : Nat → Int32) (bs : Nat → Int32) (cn : Int32) (x1 : Int32) (x2 : Int32) (x3 : Int32) (x4 : Int32) (x5 : Int32) (x6 : Int32) (x7 : Int32) (y1 : Int32) : Option ((Nat → Int32) × (Nat → Int32) × (Nat → Int32) × Int32) :=
  bd4 (fX0_addTerm qs ts bs cn y1) fun qs_64 ts_64 bs_64 cn_64 =>
  nm (x1 - (x7 * x2)) fun v73 =>
  nm (x3 - (x7 * x4)) fun v82 =>
  nm (x6 + 1) fun v96 =>
  k10 qs_64 ts_64 bs_64 cn_64 x4 v82 x2 v73 x5 v96
def fX0_expandSimplest_J47 (k10 : (Nat → Int32) → (Nat → Int32) → (Nat → Int32) → Int32 → Int32 → Int32 → Int32 → Int32 → Int32 → Int32 → Option ((Nat → Int32) × (Nat → Int32) × (Nat → Int32) × Int32)) (qs : Nat → Int32) (ts : Nat → Int32) (bs : Nat → Int32) (cn : Int32) (x1 : Int32) (x2 : Int32) (x3 : Int32) (x4 : Int32) (x6 : Int32) (x7 : Int32) (y0 : Int32) : Option ((Nat → Int32) × (Nat → Int32) × (Nat → Int32) × Int32) :=
  if y0 = 0 then
    fX0_expandSimplest_J64 k10  qs ts bs cn x1 x2 x3 x4 y0 x6 x7 x7
  else
    fX0_expandSimplest_J64 k10  qs ts bs cn x1 x2 x3 x4 y0 x6 x7 (x7 + 1)
def fX0_expandSimplest_B10 (k10 : (Nat → Int32) → (Nat → Int32) → (Nat → Int32) → Int32 → Int32 → Int32 → Int32 → Int32 → Int32 → Int32 → Option ((Nat → Int32) × (Nat → Int32) × (Nat → Int32) × Int32)) (qs : Nat → Int32) (ts : Nat → Int32) (bs : Nat → Int32) (cn : Int32) (x1 : Int32) (x2 : Int32) (x3 : Int32) (x4 : Int32) (x5 : Int32) (x6 : Int32) : Option ((Nat → Int32) × (Nat → Int32) × (Nat → Int32) × Int32) :=
  if 32 ≤ x6 then
    some (qs, ts, bs, cn)
  else
    if x2 ≤ 0 then
      some (qs, ts, bs, cn)
    else
      if x5 = 0 then
        ckZ x2 <|
        nm (x1 / x2) fun v29 =>
        if x3 ≤ ((v29 + 1) * x4) then
          fX0_expandSimplest_J47 k10  qs ts bs cn x1 x2 x3 x4 x6 v29 0
        else
          fX0_expandSimplest_J47 k10  qs ts bs cn x1 x2 x3 x4 x6 v29 1
      else
        some (qs, ts, bs, cn)
def fX0_expandSimplest_L10 : Nat → (Nat → Int32) → (Nat → Int32) → (Nat → Int32) → Int32 → Int32 → Int32 → Int32 → Int32 → Int32 → Int32 → Option ((Nat → Int32) × (Nat → Int32) × (Nat → Int32) × Int32)
  | 0, _, _, _, _, _, _, _, _, _, _ => none
  | n + 1, qs, ts, bs, cn, x1, x2, x3, x4, x5, x6 => fX0_expandSimplest_B10 (fX0_expandSimplest_L10   n)  qs ts bs cn x1 x2 x3 x4 x5 x6
def fX0_expandSimplest (qs : Nat → Int32) (ts : Nat → Int32) (bs : Nat → Int32) (cn : Int32) (p1 : Int32) (p2 : Int32) (p3 : Int32) (p4 : Int32) : Option ((Nat → Int32) × (Nat → Int32) × (Nat → Int32) × Int32) :=
  bd3 (fX0_startAnew ts bs cn) fun ts_1 bs_1 cn_1 =>
  fX0_expandSimplest_L10   FU qs ts_1 bs_1 cn_1 p1 p2 p3 p4 0 0
set_option maxHeartbeats 4000000 in
set_option maxRecDepth 100000 in
theorem zX0_expandSimplest (l : Launch) (G : va_G) (cI : ClassId) (sz : Nat) (h a1 a2 a3 : Nat) (qs : Nat → Int32) (ts : Nat → Int32) (bs : Nat → Int32) (cn : Int32) (p1 : Int32) (p2 : Int32) (p3 : Int32) (p4 : Int32) {o_qs : Nat → Int32} {o_ts : Nat → Int32} {o_bs : Nat → Int32} {o_cn : Int32} (hf : fX0_expandSimplest qs ts bs cn p1 p2 p3 p4 = some (o_qs, o_ts, o_bs, o_cn)) : mMv l yX0_expandSimplest wsX0_expandSimplest ({ frames := 2, cells := 0, slots := 0, locals := 43 }) [.ref h, .int p1, .int p2, .int p3, .int p4] G cI [(h, .inr (0, [.ref a1, .ref a2, .ref a3, .int cn])), (a1, .inl (cI, 32, .inl qs)), (a2, .inl (cI, 33, .inl ts)), (a3, .inl (cI, 33, .inl bs))] sz [(h, .inr (0, [.ref a1, .ref a2, .ref a3, .int o_cn])), (a1, .inl (cI, 32, .inl o_qs)), (a2, .inl (cI, 33, .inl o_ts)), (a3, .inl (cI, 33, .inl o_bs))] 0 0 := by
  refine Met.ofW (cc := cX0_expandSimplest) (maxL := 10) (ret := none) (by decide) rfl ?_
  intro p e s m args below meth c s₁ B hml hv
  obtain ⟨rfl, hsz, hP, hK, hD0⟩ := hv
  have hx := B.exec
  have hb := B.bytes
  have hr := B.returns
  have hts := atoms_spec (ws := wsX0_expandSimplest) B.pre
  have hown : s.vm.findClass RX0 = some m.cls := findClass_of_methodNamed B.named
  have hlocks := B.notSynchronized
  subst hsz
  have hD := hD0.self (sz := s.heap.size)
  generalize hAe : va_A [(h, .inr (0, [.ref a1, .ref a2, .ref a3, .int cn])), (a1, .inl (cI, 32, .inl qs)), (a2, .inl (cI, 33, .inl ts)), (a3, .inl (cI, 33, .inl bs))] s.heap.size = A at hD ⊢
  have hA : ∀ q : Nat, s.heap.size ≤ q → A q := fun q h => by rw [← hAe]; exact Or.inr h
  have hS : va_S A s.heap s.heap [] := va_S.rf
  obtain ⟨Qf, hQf⟩ : ∃ f : ((Nat → Int32) × (Nat → Int32) × (Nat → Int32) × Int32) → State → Prop, f = fun z => MQ below (va_Qv (fun (_ : Unit) => True) (fun _ t => va_P G vwCl [(h, .inr (0, [.ref a1, .ref a2, .ref a3, .int z.2.2.2])), (a1, .inl (cI, 32, .inl z.1)), (a2, .inl (cI, 33, .inl z.2.1)), (a3, .inl (cI, 33, .inl z.2.2.1))] t.heap ∧ va_D A [(h, .inr (0, [.ref a1, .ref a2, .ref a3, .int z.2.2.2])), (a1, .inl (cI, 32, .inl z.1)), (a2, .inl (cI, 33, .inl z.2.1)), (a3, .inl (cI, 33, .inl z.2.2.1))]) A) ([.ref h, .int p1, .int p2, .int p3, .int p4].toArray) s 0 0 A := ⟨_, rfl⟩
  suffices hgo : W p l e (headSpec wsX0_expandSimplest ({ frames := 2, cells := 0, slots := 0, locals := 43 })).room s m ([.ref h, .int p1, .int p2, .int p3, .int p4].toArray) below meth c s.heap [] 0 0 (Qf (o_qs, o_ts, o_bs, o_cn)) (entryFrame m ([.ref h, .int p1, .int p2, .int p3, .int p4].toArray) 10) by rw [hQf] at hgo; exact hgo
  have J64 : ∀ (k10 : (Nat → Int32) → (Nat → Int32) → (Nat → Int32) → Int32 → Int32 → Int32 → Int32 → Int32 → Int32 → Int32 → Option ((Nat → Int32) × (Nat → Int32) × (Nat → Int32) × Int32)) (hk10 : ∀ (qs : Nat → Int32) (ts : Nat → Int32) (bs : Nat → Int32) (cn : Int32) (x1 : Int32) (x2 : Int32) (x3 : Int32) (x4 : Int32) (x5 : Int32) (x6 : Int32) (H : Heap) (locs : List Loc) (ls : Array Slot), k10 qs ts bs cn x1 x2 x3 x4 x5 x6 = some (o_qs, o_ts, o_bs, o_cn) → va_P G vwCl [(h, .inr (0, [.ref a1, .ref a2, .ref a3, .int cn])), (a1, .inl (cI, 32, .inl qs)), (a2, .inl (cI, 33, .inl ts)), (a3, .inl (cI, 33, .inl bs))] H → va_D A [(h, .inr (0, [.ref a1, .ref a2, .ref a3, .int cn])), (a1, .inl (cI, 32, .inl qs)), (a2, .inl (cI, 33, .inl ts)), (a3, .inl (cI, 33, .inl bs))] → va_S A s.heap H locs → lv_has ls 10 [(0, .ref h), (1, .int x1), (2, .int x2), (3, .int x3), (4, .int x4), (5, .int x5), (6, .int x6)] → W p l e (headSpec wsX0_expandSimplest ({ frames := 2, cells := 0, slots := 0, locals := 43 })).room s m ([.ref h, .int p1, .int p2, .int p3, .int p4].toArray) below meth c H locs 0 0 (Qf (o_qs, o_ts, o_bs, o_cn)) (F0 m 10 ls [])) (qs : Nat → Int32) (ts : Nat → Int32) (bs : Nat → Int32) (cn : Int32) (x1 : Int32) (x2 : Int32) (x3 : Int32) (x4 : Int32) (x5 : Int32) (x6 : Int32) (x7 : Int32) (y1 : Int32) (H : Heap) (locs : List Loc) (ls : Array Slot), fX0_expandSimplest_J64 k10  qs ts bs cn x1 x2 x3 x4 x5 x6 x7 y1 = some (o_qs, o_ts, o_bs, o_cn) → va_P G vwCl [(h, .inr (0, [.ref a1, .ref a2, .ref a3, .int cn])), (a1, .inl (cI, 32, .inl qs)), (a2, .inl (cI, 33, .inl ts)), (a3, .inl (cI, 33, .inl bs))] H → va_D A [(h, .inr (0, [.ref a1, .ref a2, .ref a3, .int cn])), (a1, .inl (cI, 32, .inl qs)), (a2, .inl (cI, 33, .inl ts)), (a3, .inl (cI, 33, .inl bs))] → va_S A s.heap H locs → lv_has ls 10 [(0, .ref h), (1, .int x1), (2, .int x2), (3, .int x3), (4, .int x4), (5, .int x5), (6, .int x6), (7, .int x7)] → W p l e (headSpec wsX0_expandSimplest ({ frames := 2, cells := 0, slots := 0, locals := 43 })).room s m ([.ref h, .int p1, .int p2, .int p3, .int p4].toArray) below meth c H locs 0 0 (Qf (o_qs, o_ts, o_bs, o_cn)) (F0 m 64 ls [.int y1, .ref h]) := by
    intro k10 hk10  qs ts bs cn x1 x2 x3 x4 x5 x6 x7 y1 H locs ls hf hP hD hS hl
    unfold fX0_expandSimplest_J64 at hf
    obtain ⟨qs_64, ts_64, bs_64, cn_64, hv64, hf⟩ := bd4_s hf
    refine mcVv (As := [.int y1]) (rest := []) (wr := []) (wc := [(h, .inr (0, [.ref a1, .ref a2, .ref a3, .int cn])), (a1, .inl (cI, 32, .inl qs)), (a2, .inl (cI, 33, .inl ts)), (a3, .inl (cI, 33, .inl bs))]) ⟨hx, hb, hml, hown, hts⟩ (zX0_addTerm l G cI _ h a1 a2 a3 qs ts bs cn y1 hv64) (cwV 1 hts gX0_expandSimplest_X0_addTerm rfl rfl rfl (by decide +kernel) ⟨Nat.le_of_ble_eq_true rfl, Nat.le_of_ble_eq_true rfl⟩) hK hP hD [0, 1, 2, 3] [] rfl rfl rfl (by decide) (by decide) (by decide) rfl rfl rfl hl.1 rfl (Nat.le_of_ble_eq_true rfl) dX0_expandSimplest_64 ⟨Nat.le_of_ble_eq_true rfl, Nat.le_of_ble_eq_true rfl⟩ hS hA (fun H locs hP hD hz64 hS => ?_)
    have hP : va_P G vwCl [(h, .inr (0, [.ref a1, .ref a2, .ref a3, .int cn_64])), (a1, .inl (cI, 32, .inl qs_64)), (a2, .inl (cI, 33, .inl ts_64)), (a3, .inl (cI, 33, .inl bs_64))] H := hP
    have hD : va_D A [(h, .inr (0, [.ref a1, .ref a2, .ref a3, .int cn_64])), (a1, .inl (cI, 32, .inl qs_64)), (a2, .inl (cI, 33, .inl ts_64)), (a3, .inl (cI, 33, .inl bs_64))] := hD
    refine lv_iload_n hx hb dX0_expandSimplest_67 rfl (lv_at hl 1 rfl) ?_
    refine lv_iload hx hb dX0_expandSimplest_68 (lv_at hl 7 rfl) ?_
    refine lv_iload_n hx hb dX0_expandSimplest_70 rfl (lv_at hl 2 rfl) ?_
    refine lv_imul hx hb dX0_expandSimplest_71 ?_
    refine lv_isub hx hb dX0_expandSimplest_72 ?_
    refine lv_topi (fun v73 ev73 => ?_)
    have hf := nm_s ev73 hf
    refine lv_istore (lv' := [(8, .int v73), (0, .ref h), (1, .int x1), (2, .int x2), (3, .int x3), (4, .int x4), (5, .int x5), (6, .int x6), (7, .int x7)]) hx hb dX0_expandSimplest_73 hl (by decide) rfl (fun ls hl => ?_)
    refine lv_iload_n hx hb dX0_expandSimplest_75 rfl (lv_at hl 4 rfl) ?_
    refine lv_iload hx hb dX0_expandSimplest_76 (lv_at hl 8 rfl) ?_
    refine lv_iload hx hb dX0_expandSimplest_78 (lv_at hl 5 rfl) ?_
    refine lv_imul hx hb dX0_expandSimplest_80 ?_
    refine lv_isub hx hb dX0_expandSimplest_81 ?_
    refine lv_topi (fun v82 ev82 => ?_)
    have hf := nm_s ev82 hf
    refine lv_istore (lv' := [(9, .int v82), (8, .int v73), (0, .ref h), (1, .int x1), (2, .int x2), (3, .int x3), (4, .int x4), (5, .int x5), (6, .int x6), (7, .int x7)]) hx hb dX0_expandSimplest_82 hl (by decide) rfl (fun ls hl => ?_)
    refine lv_iload hx hb dX0_expandSimplest_84 (lv_at hl 6 rfl) ?_
    refine lv_istore_n (lv' := [(1, .int x4), (9, .int v82), (8, .int v73), (0, .ref h), (2, .int x2), (3, .int x3), (4, .int x4), (5, .int x5), (6, .int x6), (7, .int x7)]) hx hb dX0_expandSimplest_86 rfl hl (by decide) rfl (fun ls hl => ?_)
    refine lv_iload_n hx hb dX0_expandSimplest_87 rfl (lv_at hl 4 rfl) ?_
    refine lv_istore_n (lv' := [(3, .int x2), (1, .int x4), (9, .int v82), (8, .int v73), (0, .ref h), (2, .int x2), (4, .int x4), (5, .int x5), (6, .int x6), (7, .int x7)]) hx hb dX0_expandSimplest_88 rfl hl (by decide) rfl (fun ls hl => ?_)
    refine lv_iload hx hb dX0_expandSimplest_89 (lv_at hl 2 rfl) ?_
    refine lv_istore_n (lv' := [(2, .int v82), (3, .int x2), (1, .int x4), (9, .int v82), (8, .int v73), (0, .ref h), (4, .int x4), (5, .int x5), (6, .int x6), (7, .int x7)]) hx hb dX0_expandSimplest_91 rfl hl (by decide) rfl (fun ls hl => ?_)
    refine lv_iload hx hb dX0_expandSimplest_92 (lv_at hl 4 rfl) ?_
    refine lv_istore (lv' := [(4, .int v73), (2, .int v82), (3, .int x2), (1, .int x4), (9, .int v82), (8, .int v73), (0, .ref h), (5, .int x5), (6, .int x6), (7, .int x7)]) hx hb dX0_expandSimplest_94 hl (by decide) rfl (fun ls hl => ?_)
    obtain ⟨v96, ev96⟩ : ∃ y : Int32, y = x6 + 1 := ⟨_, rfl⟩
    have hf := nm_s ev96 hf
    refine lv_iinc (v := v96) (lv' := [(6, .int v96), (4, .int v73), (2, .int v82), (3, .int x2), (1, .int x4), (9, .int v82), (8, .int v73), (0, .ref h), (5, .int x5), (7, .int x7)]) hx hb dX0_expandSimplest_96 hl (k := 8) rfl (by rw [ev96]; rfl) (by decide) rfl (fun ls hl => ?_)
    refine lv_goto (tgt := 10) hx hb dX0_expandSimplest_99 (by decide) ?_
    exact hk10  qs_64 ts_64 bs_64 cn_64 x4 v82 x2 v73 x5 v96 _ _ _ hf hP hD hS (lv_sub hl [7, 4, 2, 3, 1, 8, 0] rfl)
  have J47 : ∀ (k10 : (Nat → Int32) → (Nat → Int32) → (Nat → Int32) → Int32 → Int32 → Int32 → Int32 → Int32 → Int32 → Int32 → Option ((Nat → Int32) × (Nat → Int32) × (Nat → Int32) × Int32)) (hk10 : ∀ (qs : Nat → Int32) (ts : Nat → Int32) (bs : Nat → Int32) (cn : Int32) (x1 : Int32) (x2 : Int32) (x3 : Int32) (x4 : Int32) (x5 : Int32) (x6 : Int32) (H : Heap) (locs : List Loc) (ls : Array Slot), k10 qs ts bs cn x1 x2 x3 x4 x5 x6 = some (o_qs, o_ts, o_bs, o_cn) → va_P G vwCl [(h, .inr (0, [.ref a1, .ref a2, .ref a3, .int cn])), (a1, .inl (cI, 32, .inl qs)), (a2, .inl (cI, 33, .inl ts)), (a3, .inl (cI, 33, .inl bs))] H → va_D A [(h, .inr (0, [.ref a1, .ref a2, .ref a3, .int cn])), (a1, .inl (cI, 32, .inl qs)), (a2, .inl (cI, 33, .inl ts)), (a3, .inl (cI, 33, .inl bs))] → va_S A s.heap H locs → lv_has ls 10 [(0, .ref h), (1, .int x1), (2, .int x2), (3, .int x3), (4, .int x4), (5, .int x5), (6, .int x6)] → W p l e (headSpec wsX0_expandSimplest ({ frames := 2, cells := 0, slots := 0, locals := 43 })).room s m ([.ref h, .int p1, .int p2, .int p3, .int p4].toArray) below meth c H locs 0 0 (Qf (o_qs, o_ts, o_bs, o_cn)) (F0 m 10 ls [])) (qs : Nat → Int32) (ts : Nat → Int32) (bs : Nat → Int32) (cn : Int32) (x1 : Int32) (x2 : Int32) (x3 : Int32) (x4 : Int32) (x6 : Int32) (x7 : Int32) (y0 : Int32) (H : Heap) (locs : List Loc) (ls : Array Slot), fX0_expandSimplest_J47 k10  qs ts bs cn x1 x2 x3 x4 x6 x7 y0 = some (o_qs, o_ts, o_bs, o_cn) → va_P G vwCl [(h, .inr (0, [.ref a1, .ref a2, .ref a3, .int cn])), (a1, .inl (cI, 32, .inl qs)), (a2, .inl (cI, 33, .inl ts)), (a3, .inl (cI, 33, .inl bs))] H → va_D A [(h, .inr (0, [.ref a1, .ref a2, .ref a3, .int cn])), (a1, .inl (cI, 32, .inl qs)), (a2, .inl (cI, 33, .inl ts)), (a3, .inl (cI, 33, .inl bs))] → va_S A s.heap H locs → lv_has ls 10 [(0, .ref h), (1, .int x1), (2, .int x2), (3, .int x3), (4, .int x4), (6, .int x6), (7, .int x7)] → W p l e (headSpec wsX0_expandSimplest ({ frames := 2, cells := 0, slots := 0, locals := 43 })).room s m ([.ref h, .int p1, .int p2, .int p3, .int p4].toArray) below meth c H locs 0 0 (Qf (o_qs, o_ts, o_bs, o_cn)) (F0 m 47 ls [.int y0]) := by
    intro k10 hk10  qs ts bs cn x1 x2 x3 x4 x6 x7 y0 H locs ls hf hP hD hS hl
    unfold fX0_expandSimplest_J47 at hf
    refine lv_istore (lv' := [(5, .int y0), (0, .ref h), (1, .int x1), (2, .int x2), (3, .int x3), (4, .int x4), (6, .int x6), (7, .int x7)]) hx hb dX0_expandSimplest_47 hl (by decide) rfl (fun ls hl => ?_)
    refine lv_aload_n hx hb dX0_expandSimplest_49 rfl (lv_at hl 1 rfl) ?_
    refine lv_iload hx hb dX0_expandSimplest_50 (lv_at hl 0 rfl) ?_
    refine lv_if_eq (tgt := 62) hx hb dX0_expandSimplest_52 (by decide) (fun c52 => ?_) (fun c52 => ?_)
    · have hf := it_t c52 hf
      refine lv_iload hx hb dX0_expandSimplest_62 (lv_at hl 7 rfl) ?_
      exact J64 k10 hk10  qs ts bs cn x1 x2 x3 x4 y0 x6 x7 x7 _ _ _ hf hP hD hS (lv_sub hl [1, 2, 3, 4, 5, 0, 6, 7] rfl)
    · have hf := it_f c52 hf
      refine lv_iload hx hb dX0_expandSimplest_55 (lv_at hl 7 rfl) ?_
      refine lv_iconst (v := 1) hx hb dX0_expandSimplest_57 (by decide) ?_
      refine lv_iadd hx hb dX0_expandSimplest_58 ?_
      refine lv_goto (tgt := 64) hx hb dX0_expandSimplest_59 (by decide) ?_
      exact J64 k10 hk10  qs ts bs cn x1 x2 x3 x4 y0 x6 x7 (x7 + 1) _ _ _ hf hP hD hS (lv_sub hl [1, 2, 3, 4, 5, 0, 6, 7] rfl)
  have B10 : ∀ (k10 : (Nat → Int32) → (Nat → Int32) → (Nat → Int32) → Int32 → Int32 → Int32 → Int32 → Int32 → Int32 → Int32 → Option ((Nat → Int32) × (Nat → Int32) × (Nat → Int32) × Int32)) (hk10 : ∀ (qs : Nat → Int32) (ts : Nat → Int32) (bs : Nat → Int32) (cn : Int32) (x1 : Int32) (x2 : Int32) (x3 : Int32) (x4 : Int32) (x5 : Int32) (x6 : Int32) (H : Heap) (locs : List Loc) (ls : Array Slot), k10 qs ts bs cn x1 x2 x3 x4 x5 x6 = some (o_qs, o_ts, o_bs, o_cn) → va_P G vwCl [(h, .inr (0, [.ref a1, .ref a2, .ref a3, .int cn])), (a1, .inl (cI, 32, .inl qs)), (a2, .inl (cI, 33, .inl ts)), (a3, .inl (cI, 33, .inl bs))] H → va_D A [(h, .inr (0, [.ref a1, .ref a2, .ref a3, .int cn])), (a1, .inl (cI, 32, .inl qs)), (a2, .inl (cI, 33, .inl ts)), (a3, .inl (cI, 33, .inl bs))] → va_S A s.heap H locs → lv_has ls 10 [(0, .ref h), (1, .int x1), (2, .int x2), (3, .int x3), (4, .int x4), (5, .int x5), (6, .int x6)] → W p l e (headSpec wsX0_expandSimplest ({ frames := 2, cells := 0, slots := 0, locals := 43 })).room s m ([.ref h, .int p1, .int p2, .int p3, .int p4].toArray) below meth c H locs 0 0 (Qf (o_qs, o_ts, o_bs, o_cn)) (F0 m 10 ls [])) (qs : Nat → Int32) (ts : Nat → Int32) (bs : Nat → Int32) (cn : Int32) (x1 : Int32) (x2 : Int32) (x3 : Int32) (x4 : Int32) (x5 : Int32) (x6 : Int32) (H : Heap) (locs : List Loc) (ls : Array Slot), fX0_expandSimplest_B10 k10  qs ts bs cn x1 x2 x3 x4 x5 x6 = some (o_qs, o_ts, o_bs, o_cn) → va_P G vwCl [(h, .inr (0, [.ref a1, .ref a2, .ref a3, .int cn])), (a1, .inl (cI, 32, .inl qs)), (a2, .inl (cI, 33, .inl ts)), (a3, .inl (cI, 33, .inl bs))] H → va_D A [(h, .inr (0, [.ref a1, .ref a2, .ref a3, .int cn])), (a1, .inl (cI, 32, .inl qs)), (a2, .inl (cI, 33, .inl ts)), (a3, .inl (cI, 33, .inl bs))] → va_S A s.heap H locs → lv_has ls 10 [(0, .ref h), (1, .int x1), (2, .int x2), (3, .int x3), (4, .int x4), (5, .int x5), (6, .int x6)] → W p l e (headSpec wsX0_expandSimplest ({ frames := 2, cells := 0, slots := 0, locals := 43 })).room s m ([.ref h, .int p1, .int p2, .int p3, .int p4].toArray) below meth c H locs 0 0 (Qf (o_qs, o_ts, o_bs, o_cn)) (F0 m 10 ls []) := by
    intro k10 hk10  qs ts bs cn x1 x2 x3 x4 x5 x6 H locs ls hf hP hD hS hl
    unfold fX0_expandSimplest_B10 at hf
    refine lv_iload hx hb dX0_expandSimplest_10 (lv_at hl 6 rfl) ?_
    refine lv_bipush (v := 32) hx hb dX0_expandSimplest_12 (by decide) ?_
    refine lv_icmp_ge (tgt := 102) hx hb dX0_expandSimplest_14 (by decide) (fun c14 => ?_) (fun c14 => ?_)
    · have hf := it_t c14 hf
      refine qf_s (Qf := Qf) hf ?_
      have hP9 : va_P G vwCl [(h, .inr (0, [.ref a1, .ref a2, .ref a3, .int cn])), (a1, .inl (cI, 32, .inl qs)), (a2, .inl (cI, 33, .inl ts)), (a3, .inl (cI, 33, .inl bs))] _ := hP.sub [0, 1, 2, 3] rfl
      have hD9 : va_D A [(h, .inr (0, [.ref a1, .ref a2, .ref a3, .int cn])), (a1, .inl (cI, 32, .inl qs)), (a2, .inl (cI, 33, .inl ts)), (a3, .inl (cI, 33, .inl bs))] := hD.sub [0, 1, 2, 3] (by decide) rfl
      rw [hQf]
      exact W.vret hx hb hr (fun t ht hW => ⟨⟨(), rfl, trivial, by rw [ht]; exact hP9, hD9⟩, hS.F ht⟩) hS.2.2 dX0_expandSimplest_102
    · have hf := it_f c14 hf
      refine lv_iload_n hx hb dX0_expandSimplest_17 rfl (lv_at hl 2 rfl) ?_
      refine lv_if_le (tgt := 102) hx hb dX0_expandSimplest_18 (by decide) (fun c18 => ?_) (fun c18 => ?_)
      · have hf := it_t c18 hf
        refine qf_s (Qf := Qf) hf ?_
        have hP9 : va_P G vwCl [(h, .inr (0, [.ref a1, .ref a2, .ref a3, .int cn])), (a1, .inl (cI, 32, .inl qs)), (a2, .inl (cI, 33, .inl ts)), (a3, .inl (cI, 33, .inl bs))] _ := hP.sub [0, 1, 2, 3] rfl
        have hD9 : va_D A [(h, .inr (0, [.ref a1, .ref a2, .ref a3, .int cn])), (a1, .inl (cI, 32, .inl qs)), (a2, .inl (cI, 33, .inl ts)), (a3, .inl (cI, 33, .inl bs))] := hD.sub [0, 1, 2, 3] (by decide) rfl
        rw [hQf]
        exact W.vret hx hb hr (fun t ht hW => ⟨⟨(), rfl, trivial, by rw [ht]; exact hP9, hD9⟩, hS.F ht⟩) hS.2.2 dX0_expandSimplest_102
      · have hf := it_f c18 hf
        refine lv_iload hx hb dX0_expandSimplest_21 (lv_at hl 5 rfl) ?_
        refine lv_if_ne (tgt := 102) hx hb dX0_expandSimplest_23 (by decide) (fun c23 => ?_) (fun c23 => ?_)
        · have hf := it_f c23 hf
          refine qf_s (Qf := Qf) hf ?_
          have hP9 : va_P G vwCl [(h, .inr (0, [.ref a1, .ref a2, .ref a3, .int cn])), (a1, .inl (cI, 32, .inl qs)), (a2, .inl (cI, 33, .inl ts)), (a3, .inl (cI, 33, .inl bs))] _ := hP.sub [0, 1, 2, 3] rfl
          have hD9 : va_D A [(h, .inr (0, [.ref a1, .ref a2, .ref a3, .int cn])), (a1, .inl (cI, 32, .inl qs)), (a2, .inl (cI, 33, .inl ts)), (a3, .inl (cI, 33, .inl bs))] := hD.sub [0, 1, 2, 3] (by decide) rfl
          rw [hQf]
          exact W.vret hx hb hr (fun t ht hW => ⟨⟨(), rfl, trivial, by rw [ht]; exact hP9, hD9⟩, hS.F ht⟩) hS.2.2 dX0_expandSimplest_102
        · have hf := it_t c23 hf
          refine lv_iload_n hx hb dX0_expandSimplest_26 rfl (lv_at hl 1 rfl) ?_
          refine lv_iload_n hx hb dX0_expandSimplest_27 rfl (lv_at hl 2 rfl) ?_
          obtain ⟨hz28, hf⟩ := ckZ_s hf
          refine lv_idiv hx hb dX0_expandSimplest_28 hz28 ?_
          refine lv_topi (fun v29 ev29 => ?_)
          have hf := nm_s ev29 hf
          refine lv_istore (lv' := [(7, .int v29), (0, .ref h), (1, .int x1), (2, .int x2), (3, .int x3), (4, .int x4), (5, .int x5), (6, .int x6)]) hx hb dX0_expandSimplest_29 hl (by decide) rfl (fun ls hl => ?_)
          refine lv_iload hx hb dX0_expandSimplest_31 (lv_at hl 0 rfl) ?_
          refine lv_iconst (v := 1) hx hb dX0_expandSimplest_33 (by decide) ?_
          refine lv_iadd hx hb dX0_expandSimplest_34 ?_
          refine lv_iload hx hb dX0_expandSimplest_35 (lv_at hl 5 rfl) ?_
          refine lv_imul hx hb dX0_expandSimplest_37 ?_
          refine lv_iload_n hx hb dX0_expandSimplest_38 rfl (lv_at hl 4 rfl) ?_
          refine lv_icmp_ge (tgt := 46) hx hb dX0_expandSimplest_39 (by decide) (fun c39 => ?_) (fun c39 => ?_)
          · have hf := it_t c39 hf
            refine lv_iconst (v := 0) hx hb dX0_expandSimplest_46 (by decide) ?_
            exact J47 k10 hk10  qs ts bs cn x1 x2 x3 x4 x6 v29 0 _ _ _ hf hP hD hS (lv_sub hl [1, 2, 3, 4, 5, 7, 0] rfl)
          · have hf := it_f c39 hf
            refine lv_iconst (v := 1) hx hb dX0_expandSimplest_42 (by decide) ?_
            refine lv_goto (tgt := 47) hx hb dX0_expandSimplest_43 (by decide) ?_
            exact J47 k10 hk10  qs ts bs cn x1 x2 x3 x4 x6 v29 1 _ _ _ hf hP hD hS (lv_sub hl [1, 2, 3, 4, 5, 7, 0] rfl)
  have L10 : ∀ (fu : Nat) (qs : Nat → Int32) (ts : Nat → Int32) (bs : Nat → Int32) (cn : Int32) (x1 : Int32) (x2 : Int32) (x3 : Int32) (x4 : Int32) (x5 : Int32) (x6 : Int32) (H : Heap) (locs : List Loc) (ls : Array Slot), fX0_expandSimplest_L10   fu qs ts bs cn x1 x2 x3 x4 x5 x6 = some (o_qs, o_ts, o_bs, o_cn) → va_P G vwCl [(h, .inr (0, [.ref a1, .ref a2, .ref a3, .int cn])), (a1, .inl (cI, 32, .inl qs)), (a2, .inl (cI, 33, .inl ts)), (a3, .inl (cI, 33, .inl bs))] H → va_D A [(h, .inr (0, [.ref a1, .ref a2, .ref a3, .int cn])), (a1, .inl (cI, 32, .inl qs)), (a2, .inl (cI, 33, .inl ts)), (a3, .inl (cI, 33, .inl bs))] → va_S A s.heap H locs → lv_has ls 10 [(0, .ref h), (1, .int x1), (2, .int x2), (3, .int x3), (4, .int x4), (5, .int x5), (6, .int x6)] → W p l e (headSpec wsX0_expandSimplest ({ frames := 2, cells := 0, slots := 0, locals := 43 })).room s m ([.ref h, .int p1, .int p2, .int p3, .int p4].toArray) below meth c H locs 0 0 (Qf (o_qs, o_ts, o_bs, o_cn)) (F0 m 10 ls []) := by
    intro  fu
    induction fu with
    | zero => intro  qs ts bs cn x1 x2 x3 x4 x5 x6 H locs ls hf; cases hf
    | succ fu ih => intro  qs ts bs cn x1 x2 x3 x4 x5 x6 H locs ls hf hP hD hS hl; exact B10 (fX0_expandSimplest_L10   fu) ih  qs ts bs cn x1 x2 x3 x4 x5 x6 _ _ _ hf hP hD hS hl
  have hl := lv_entry ([.ref h, .int p1, .int p2, .int p3, .int p4]) (n := 10) (Nat.le_of_ble_eq_true rfl)
  rw [lg_entry_eq]
  generalize (lg_sl ([.ref h, .int p1, .int p2, .int p3, .int p4]) ++ List.replicate (10 - (lg_sl ([.ref h, .int p1, .int p2, .int p3, .int p4])).length) Slot.unset).toArray = ls at hl ⊢
  have hl : lv_has ls 10 [(0, .ref h), (1, .int p1), (2, .int p2), (3, .int p3), (4, .int p4)] := hl
  unfold fX0_expandSimplest at hf
  refine lv_aload_n hx hb dX0_expandSimplest_0 rfl (lv_at hl 0 rfl) ?_
  obtain ⟨ts_1, bs_1, cn_1, hv1, hf⟩ := bd3_s hf
  refine mcVv (As := []) (rest := []) (wr := []) (wc := [(h, .inr (0, [.ref a1, .ref a2, .ref a3, .int cn])), (a1, .inl (cI, 32, .inl qs)), (a2, .inl (cI, 33, .inl ts)), (a3, .inl (cI, 33, .inl bs))]) ⟨hx, hb, hml, hown, hts⟩ (zX0_startAnew l G cI _ h a1 a2 a3 qs ts bs cn  hv1) (cwV 0 hts gX0_expandSimplest_X0_startAnew rfl rfl rfl (by decide +kernel) ⟨Nat.le_of_ble_eq_true rfl, Nat.le_of_ble_eq_true rfl⟩) hK hP hD [0, 1, 2, 3] [] rfl rfl rfl (by decide) (by decide) (by decide) rfl rfl rfl hl.1 rfl (Nat.le_of_ble_eq_true rfl) dX0_expandSimplest_1 ⟨Nat.le_of_ble_eq_true rfl, Nat.le_of_ble_eq_true rfl⟩ hS hA (fun H locs hP hD hz1 hS => ?_)
  have hP : va_P G vwCl [(h, .inr (0, [.ref a1, .ref a2, .ref a3, .int cn_1])), (a1, .inl (cI, 32, .inl qs)), (a2, .inl (cI, 33, .inl ts_1)), (a3, .inl (cI, 33, .inl bs_1))] H := hP
  have hD : va_D A [(h, .inr (0, [.ref a1, .ref a2, .ref a3, .int cn_1])), (a1, .inl (cI, 32, .inl qs)), (a2, .inl (cI, 33, .inl ts_1)), (a3, .inl (cI, 33, .inl bs_1))] := hD
  refine lv_iconst (v := 0) hx hb dX0_expandSimplest_4 (by decide) ?_
  refine lv_istore (lv' := [(5, .int 0), (0, .ref h), (1, .int p1), (2, .int p2), (3, .int p3), (4, .int p4)]) hx hb dX0_expandSimplest_5 hl (by decide) rfl (fun ls hl => ?_)
  refine lv_iconst (v := 0) hx hb dX0_expandSimplest_7 (by decide) ?_
  refine lv_istore (lv' := [(6, .int 0), (5, .int 0), (0, .ref h), (1, .int p1), (2, .int p2), (3, .int p3), (4, .int p4)]) hx hb dX0_expandSimplest_8 hl (by decide) rfl (fun ls hl => ?_)
  exact L10  FU  qs ts_1 bs_1 cn_1 p1 p2 p3 p4 0 0 _ _ _ hf hP hD hS (lv_sub hl [2, 3, 4, 5, 6, 1, 0] rfl)
def fX0_countSteps_B4 (k4 : Int32 → Int32 → Option (Int32)) (qs : Nat → Int32) (cn : Int32) (x1 : Int32) (x2 : Int32) : Option (Int32) :=
  if cn ≤ x2 then
    some x1
  else
    ckI x2 32 <|
    nm (x1 + (qs (Int32.toNatClampNeg x2))) fun v20 =>
    nm (x2 + 1) fun v21 =>
    k4 v20 v21
def fX0_countSteps_L4 (qs : Nat → Int32) (cn : Int32) : Nat → Int32 → Int32 → Option (Int32)
  | 0, _, _ => none
  | n + 1, x1, x2 => fX0_countSteps_B4 (fX0_countSteps_L4  qs cn n) qs cn x1 x2
def fX0_countSteps (qs : Nat → Int32) (cn : Int32) : Option (Int32) :=
  fX0_countSteps_L4  qs cn FU (-1) 0
set_option maxHeartbeats 4000000 in
set_option maxRecDepth 100000 in
theorem zX0_countSteps (l : Launch) (G : va_G) (cI : ClassId) (sz : Nat) (h a1 a2 a3 : Nat) (qs : Nat → Int32) (ts : Nat → Int32) (bs : Nat → Int32) (cn : Int32) {rv : Int32} (hf : fX0_countSteps qs cn = some rv) : mRi l yX0_countSteps wsX0_countSteps ({ frames := 0, cells := 0, slots := 0, locals := 0 }) [.ref h] G cI [(h, .inr (0, [.ref a1, .ref a2, .ref a3, .int cn])), (a1, .inl (cI, 32, .inl qs)), (a2, .inl (cI, 33, .inl ts)), (a3, .inl (cI, 33, .inl bs))] sz rv := by
  refine Met.ofW (cc := cX0_countSteps) (maxL := 3) (ret := (some .int)) (by decide) rfl ?_
  intro p e s m args below meth c s₁ B hml hv
  obtain ⟨rfl, hsz, hP, hK⟩ := hv
  have hx := B.exec
  have hb := B.bytes
  have hr := B.returns
  have hts := atoms_spec (ws := wsX0_countSteps) B.pre
  have hown : s.vm.findClass RX0 = some m.cls := findClass_of_methodNamed B.named
  have hlocks := B.notSynchronized
  subst hsz
  generalize hAe : va_A [] s.heap.size = A
  have hA : ∀ q : Nat, s.heap.size ≤ q → A q := fun q h => by rw [← hAe]; exact Or.inr h
  have hS : va_S A s.heap s.heap [] := va_S.rf
  have w0 := hts (.fieldLink RX0 21 "SternDesk$Expansion" "count" "I") (by decide +kernel)
  have hinX0 : ∀ w ∈ u_ws RX0 TX0 4, w ∈ wsX0_countSteps := by decide +kernel
  have w2 := hts (.fieldLink RX0 9 "SternDesk$Expansion" "quotients" "[I") (by decide +kernel)
  obtain ⟨Qf, hQf⟩ : ∃ f : Int32 → State → Prop, f = fun z => MQ below (va_Qi (fun (r : Int32) (_ : Unit) => r = z) (fun _ _ => True) A) ([.ref h].toArray) s 0 0 A := ⟨_, rfl⟩
  suffices hgo : W p l e (headSpec wsX0_countSteps ({ frames := 0, cells := 0, slots := 0, locals := 0 })).room s m ([.ref h].toArray) below meth c s.heap [] 0 0 (Qf rv) (entryFrame m ([.ref h].toArray) 3) by rw [hQf] at hgo; exact hgo
  have B4 : ∀ (k4 : Int32 → Int32 → Option (Int32)) (hk4 : ∀ (x1 : Int32) (x2 : Int32) (H : Heap) (locs : List Loc) (ls : Array Slot), k4 x1 x2 = some rv → va_P G vwCl [(h, .inr (0, [.ref a1, .ref a2, .ref a3, .int cn])), (a1, .inl (cI, 32, .inl qs)), (a2, .inl (cI, 33, .inl ts)), (a3, .inl (cI, 33, .inl bs))] H → va_S A s.heap H locs → lv_has ls 3 [(0, .ref h), (1, .int x1), (2, .int x2)] → W p l e (headSpec wsX0_countSteps ({ frames := 0, cells := 0, slots := 0, locals := 0 })).room s m ([.ref h].toArray) below meth c H locs 0 0 (Qf rv) (F0 m 4 ls [])) (x1 : Int32) (x2 : Int32) (H : Heap) (locs : List Loc) (ls : Array Slot), fX0_countSteps_B4 k4 qs cn x1 x2 = some rv → va_P G vwCl [(h, .inr (0, [.ref a1, .ref a2, .ref a3, .int cn])), (a1, .inl (cI, 32, .inl qs)), (a2, .inl (cI, 33, .inl ts)), (a3, .inl (cI, 33, .inl bs))] H → va_S A s.heap H locs → lv_has ls 3 [(0, .ref h), (1, .int x1), (2, .int x2)] → W p l e (headSpec wsX0_countSteps ({ frames := 0, cells := 0, slots := 0, locals := 0 })).room s m ([.ref h].toArray) below meth c H locs 0 0 (Qf rv) (F0 m 4 ls []) := by
    intro k4 hk4  x1 x2 H locs ls hf hP hS hl
    unfold fX0_countSteps_B4 at hf
    refine lv_iload_n hx hb dX0_countSteps_4 rfl (lv_at hl 2 rfl) ?_
    refine lv_aload_n hx hb dX0_countSteps_5 rfl (lv_at hl 0 rfl) ?_
    refine va_get (D := G) (ci := 0) (v := .int cn) (C := RX0) (T := TX0) (N := 4) hx hb hts hinX0 hown hK.1 hP 0 rfl rfl 3 (by decide) w0 (fun _ h9 => h9) rfl dX0_countSteps_6 ?_
    refine lv_icmp_ge (tgt := 27) hx hb dX0_countSteps_9 (by decide) (fun c9 => ?_) (fun c9 => ?_)
    · have hf := it_t c9 hf
      refine lv_iload_n hx hb dX0_countSteps_27 rfl (lv_at hl 1 rfl) ?_
      refine qf_s (Qf := Qf) hf ?_
      rw [hQf]
      exact W.iret hx hb hr (fun t ht hW => ⟨⟨_, (), rfl, rfl, trivial⟩, hS.F ht⟩) hS.2.2 dX0_countSteps_28
    · have hf := it_f c9 hf
      refine lv_iload_n hx hb dX0_countSteps_12 rfl (lv_at hl 1 rfl) ?_
      refine lv_aload_n hx hb dX0_countSteps_13 rfl (lv_at hl 0 rfl) ?_
      refine va_get (D := G) (ci := 0) (v := .ref a1) (C := RX0) (T := TX0) (N := 4) hx hb hts hinX0 hown hK.1 hP 0 rfl rfl 0 (by decide) w2 (fun _ h9 => h9) rfl dX0_countSteps_14 ?_
      refine lv_iload_n hx hb dX0_countSteps_17 rfl (lv_at hl 2 rfl) ?_
      obtain ⟨hi18, hf⟩ := ckI_s hf
      refine va_iald hx hb hK.1 hP 1 0 rfl rfl hi18 dX0_countSteps_18 ?_
      refine lv_iadd hx hb dX0_countSteps_19 ?_
      refine lv_topi (fun v20 ev20 => ?_)
      have hf := nm_s ev20 hf
      refine lv_istore_n (lv' := [(1, .int v20), (0, .ref h), (2, .int x2)]) hx hb dX0_countSteps_20 rfl hl (by decide) rfl (fun ls hl => ?_)
      obtain ⟨v21, ev21⟩ : ∃ y : Int32, y = x2 + 1 := ⟨_, rfl⟩
      have hf := nm_s ev21 hf
      refine lv_iinc (v := v21) (lv' := [(2, .int v21), (1, .int v20), (0, .ref h)]) hx hb dX0_countSteps_21 hl (k := 2) rfl (by rw [ev21]; rfl) (by decide) rfl (fun ls hl => ?_)
      refine lv_goto (tgt := 4) hx hb dX0_countSteps_24 (by decide) ?_
      exact hk4  v20 v21 _ _ _ hf hP hS (lv_sub hl [2, 1, 0] rfl)
  have L4 : ∀ (fu : Nat) (x1 : Int32) (x2 : Int32) (H : Heap) (locs : List Loc) (ls : Array Slot), fX0_countSteps_L4  qs cn fu x1 x2 = some rv → va_P G vwCl [(h, .inr (0, [.ref a1, .ref a2, .ref a3, .int cn])), (a1, .inl (cI, 32, .inl qs)), (a2, .inl (cI, 33, .inl ts)), (a3, .inl (cI, 33, .inl bs))] H → va_S A s.heap H locs → lv_has ls 3 [(0, .ref h), (1, .int x1), (2, .int x2)] → W p l e (headSpec wsX0_countSteps ({ frames := 0, cells := 0, slots := 0, locals := 0 })).room s m ([.ref h].toArray) below meth c H locs 0 0 (Qf rv) (F0 m 4 ls []) := by
    intro  fu
    induction fu with
    | zero => intro  x1 x2 H locs ls hf; cases hf
    | succ fu ih => intro  x1 x2 H locs ls hf hP hS hl; exact B4 (fX0_countSteps_L4  qs cn fu) ih  x1 x2 _ _ _ hf hP hS hl
  have hl := lv_entry ([.ref h]) (n := 3) (Nat.le_of_ble_eq_true rfl)
  rw [lg_entry_eq]
  generalize (lg_sl ([.ref h]) ++ List.replicate (3 - (lg_sl ([.ref h])).length) Slot.unset).toArray = ls at hl ⊢
  have hl : lv_has ls 3 [(0, .ref h)] := hl
  unfold fX0_countSteps at hf
  refine lv_iconst (v := (-1)) hx hb dX0_countSteps_0 (by decide) ?_
  refine lv_istore_n (lv' := [(1, .int (-1)), (0, .ref h)]) hx hb dX0_countSteps_1 rfl hl (by decide) rfl (fun ls hl => ?_)
  refine lv_iconst (v := 0) hx hb dX0_countSteps_2 (by decide) ?_
  refine lv_istore_n (lv' := [(2, .int 0), (1, .int (-1)), (0, .ref h)]) hx hb dX0_countSteps_3 rfl hl (by decide) rfl (fun ls hl => ?_)
  exact L4  FU  (-1) 0 _ _ _ hf hP hS (lv_sub hl [2, 1, 0] rfl)
def fX0_firstTermWithSteps (qs : Nat → Int32) : Option (Int32) :=
  ckI 0 32 <|
  if (qs (Int32.toNatClampNeg 0)) = 0 then
    some 1
  else
    some 0
set_option maxHeartbeats 4000000 in
set_option maxRecDepth 100000 in
theorem zX0_firstTermWithSteps (l : Launch) (G : va_G) (cI : ClassId) (sz : Nat) (h a1 a2 a3 : Nat) (qs : Nat → Int32) (ts : Nat → Int32) (bs : Nat → Int32) (cn : Int32) {rv : Int32} (hf : fX0_firstTermWithSteps qs = some rv) : mRi l yX0_firstTermWithSteps wsX0_firstTermWithSteps ({ frames := 0, cells := 0, slots := 0, locals := 0 }) [.ref h] G cI [(h, .inr (0, [.ref a1, .ref a2, .ref a3, .int cn])), (a1, .inl (cI, 32, .inl qs)), (a2, .inl (cI, 33, .inl ts)), (a3, .inl (cI, 33, .inl bs))] sz rv := by
  refine Met.ofW (cc := cX0_firstTermWithSteps) (maxL := 1) (ret := (some .int)) (by decide) rfl ?_
  intro p e s m args below meth c s₁ B hml hv
  obtain ⟨rfl, hsz, hP, hK⟩ := hv
  have hx := B.exec
  have hb := B.bytes
  have hr := B.returns
  have hts := atoms_spec (ws := wsX0_firstTermWithSteps) B.pre
  have hown : s.vm.findClass RX0 = some m.cls := findClass_of_methodNamed B.named
  have hlocks := B.notSynchronized
  subst hsz
  generalize hAe : va_A [] s.heap.size = A
  have hA : ∀ q : Nat, s.heap.size ≤ q → A q := fun q h => by rw [← hAe]; exact Or.inr h
  have hS : va_S A s.heap s.heap [] := va_S.rf
  have w0 := hts (.fieldLink RX0 9 "SternDesk$Expansion" "quotients" "[I") (by decide +kernel)
  have hinX0 : ∀ w ∈ u_ws RX0 TX0 4, w ∈ wsX0_firstTermWithSteps := by decide +kernel
  obtain ⟨Qf, hQf⟩ : ∃ f : Int32 → State → Prop, f = fun z => MQ below (va_Qi (fun (r : Int32) (_ : Unit) => r = z) (fun _ _ => True) A) ([.ref h].toArray) s 0 0 A := ⟨_, rfl⟩
  suffices hgo : W p l e (headSpec wsX0_firstTermWithSteps ({ frames := 0, cells := 0, slots := 0, locals := 0 })).room s m ([.ref h].toArray) below meth c s.heap [] 0 0 (Qf rv) (entryFrame m ([.ref h].toArray) 1) by rw [hQf] at hgo; exact hgo
  have hl := lv_entry ([.ref h]) (n := 1) (Nat.le_of_ble_eq_true rfl)
  rw [lg_entry_eq]
  generalize (lg_sl ([.ref h]) ++ List.replicate (1 - (lg_sl ([.ref h])).length) Slot.unset).toArray = ls at hl ⊢
  have hl : lv_has ls 1 [(0, .ref h)] := hl
  unfold fX0_firstTermWithSteps at hf
  refine lv_aload_n hx hb dX0_firstTermWithSteps_0 rfl (lv_at hl 0 rfl) ?_
  refine va_get (D := G) (ci := 0) (v := .ref a1) (C := RX0) (T := TX0) (N := 4) hx hb hts hinX0 hown hK.1 hP 0 rfl rfl 0 (by decide) w0 (fun _ h9 => h9) rfl dX0_firstTermWithSteps_1 ?_
  refine lv_iconst (v := 0) hx hb dX0_firstTermWithSteps_4 (by decide) ?_
  obtain ⟨hi5, hf⟩ := ckI_s hf
  refine va_iald hx hb hK.1 hP 1 0 rfl rfl hi5 dX0_firstTermWithSteps_5 ?_
  refine lv_if_ne (tgt := 13) hx hb dX0_firstTermWithSteps_6 (by decide) (fun c6 => ?_) (fun c6 => ?_)
  · have hf := it_f c6 hf
    refine lv_iconst (v := 0) hx hb dX0_firstTermWithSteps_13 (by decide) ?_
    refine qf_s (Qf := Qf) hf ?_
    rw [hQf]
    exact W.iret hx hb hr (fun t ht hW => ⟨⟨_, (), rfl, rfl, trivial⟩, hS.F ht⟩) hS.2.2 dX0_firstTermWithSteps_14
  · have hf := it_t c6 hf
    refine lv_iconst (v := 1) hx hb dX0_firstTermWithSteps_9 (by decide) ?_
    refine lv_goto (tgt := 14) hx hb dX0_firstTermWithSteps_10 (by decide) ?_
    refine qf_s (Qf := Qf) hf ?_
    rw [hQf]
    exact W.iret hx hb hr (fun t ht hW => ⟨⟨_, (), rfl, rfl, trivial⟩, hS.F ht⟩) hS.2.2 dX0_firstTermWithSteps_14
def fX0_countRuns (qs : Nat → Int32) (ts : Nat → Int32) (bs : Nat → Int32) (cn : Int32) : Option (Int32) :=
  bd1 (fX0_top ts cn) fun r1 =>
  if r1 = 0 then
    some 0
  else
    bd1 (fX0_top ts cn) fun r8 =>
    bd1 (fX0_bottom bs cn) fun r12 =>
    if r8 = r12 then
      some 0
    else
      bd1 (fX0_firstTermWithSteps qs) fun r27 =>
      some (cn - r27)
set_option maxHeartbeats 4000000 in
set_option maxRecDepth 100000 in
theorem zX0_countRuns (l : Launch) (G : va_G) (cI : ClassId) (sz : Nat) (h a1 a2 a3 : Nat) (qs : Nat → Int32) (ts : Nat → Int32) (bs : Nat → Int32) (cn : Int32) {rv : Int32} (hf : fX0_countRuns qs ts bs cn = some rv) : mRi l yX0_countRuns wsX0_countRuns ({ frames := 1, cells := 0, slots := 0, locals := 20 }) [.ref h] G cI [(h, .inr (0, [.ref a1, .ref a2, .ref a3, .int cn])), (a1, .inl (cI, 32, .inl qs)), (a2, .inl (cI, 33, .inl ts)), (a3, .inl (cI, 33, .inl bs))] sz rv := by
  refine Met.ofW (cc := cX0_countRuns) (maxL := 1) (ret := (some .int)) (by decide) rfl ?_
  intro p e s m args below meth c s₁ B hml hv
  obtain ⟨rfl, hsz, hP, hK⟩ := hv
  have hx := B.exec
  have hb := B.bytes
  have hr := B.returns
  have hts := atoms_spec (ws := wsX0_countRuns) B.pre
  have hown : s.vm.findClass RX0 = some m.cls := findClass_of_methodNamed B.named
  have hlocks := B.notSynchronized
  subst hsz
  generalize hAe : va_A [] s.heap.size = A
  have hA : ∀ q : Nat, s.heap.size ≤ q → A q := fun q h => by rw [← hAe]; exact Or.inr h
  have hS : va_S A s.heap s.heap [] := va_S.rf
  have w0 := hts (.fieldLink RX0 21 "SternDesk$Expansion" "count" "I") (by decide +kernel)
  have hinX0 : ∀ w ∈ u_ws RX0 TX0 4, w ∈ wsX0_countRuns := by decide +kernel
  obtain ⟨Qf, hQf⟩ : ∃ f : Int32 → State → Prop, f = fun z => MQ below (va_Qi (fun (r : Int32) (_ : Unit) => r = z) (fun _ _ => True) A) ([.ref h].toArray) s 0 0 A := ⟨_, rfl⟩
  suffices hgo : W p l e (headSpec wsX0_countRuns ({ frames := 1, cells := 0, slots := 0, locals := 20 })).room s m ([.ref h].toArray) below meth c s.heap [] 0 0 (Qf rv) (entryFrame m ([.ref h].toArray) 1) by rw [hQf] at hgo; exact hgo
  have hl := lv_entry ([.ref h]) (n := 1) (Nat.le_of_ble_eq_true rfl)
  rw [lg_entry_eq]
  generalize (lg_sl ([.ref h]) ++ List.replicate (1 - (lg_sl ([.ref h])).length) Slot.unset).toArray = ls at hl ⊢
  have hl : lv_has ls 1 [(0, .ref h)] := hl
  unfold fX0_countRuns at hf
  refine lv_aload_n hx hb dX0_countRuns_0 rfl (lv_at hl 0 rfl) ?_
  obtain ⟨r1, hv1, hf⟩ := bd1_s hf
  refine roVi (As := []) (rest := []) ⟨hx, hb, hml, hown, hts⟩ (zX0_top l G cI _ h a1 a2 a3 qs ts bs cn  hv1) (cwV 0 hts gX0_countRuns_X0_top rfl rfl rfl (by decide +kernel) ⟨Nat.le_of_ble_eq_true rfl, Nat.le_of_ble_eq_true rfl⟩) hK hP (hP.sub [0, 1, 2, 3] rfl) rfl rfl rfl hl.1 rfl (Nat.le_of_ble_eq_true rfl) dX0_countRuns_1 ⟨Nat.le_of_ble_eq_true rfl, Nat.le_of_ble_eq_true rfl⟩ hS hA (fun H locs hP hz1 hS => ?_)
  refine lv_if_eq (tgt := 18) hx hb dX0_countRuns_4 (by decide) (fun c4 => ?_) (fun c4 => ?_)
  · have hf := it_t c4 hf
    refine lv_iconst (v := 0) hx hb dX0_countRuns_18 (by decide) ?_
    refine lv_goto (tgt := 31) hx hb dX0_countRuns_19 (by decide) ?_
    refine qf_s (Qf := Qf) hf ?_
    rw [hQf]
    exact W.iret hx hb hr (fun t ht hW => ⟨⟨_, (), rfl, rfl, trivial⟩, hS.F ht⟩) hS.2.2 dX0_countRuns_31
  · have hf := it_f c4 hf
    refine lv_aload_n hx hb dX0_countRuns_7 rfl (lv_at hl 0 rfl) ?_
    obtain ⟨r8, hv8, hf⟩ := bd1_s hf
    refine roVi (As := []) (rest := []) ⟨hx, hb, hml, hown, hts⟩ (zX0_top l G cI _ h a1 a2 a3 qs ts bs cn  hv8) (cwV 0 hts gX0_countRuns_X0_top rfl rfl rfl (by decide +kernel) ⟨Nat.le_of_ble_eq_true rfl, Nat.le_of_ble_eq_true rfl⟩) hK hP (hP.sub [0, 1, 2, 3] rfl) rfl rfl rfl hl.1 rfl (Nat.le_of_ble_eq_true rfl) dX0_countRuns_8 ⟨Nat.le_of_ble_eq_true rfl, Nat.le_of_ble_eq_true rfl⟩ hS hA (fun H locs hP hz8 hS => ?_)
    refine lv_aload_n hx hb dX0_countRuns_11 rfl (lv_at hl 0 rfl) ?_
    obtain ⟨r12, hv12, hf⟩ := bd1_s hf
    refine roVi (As := []) (rest := [.int r8]) ⟨hx, hb, hml, hown, hts⟩ (zX0_bottom l G cI _ h a1 a2 a3 qs ts bs cn  hv12) (cwV 0 hts gX0_countRuns_X0_bottom rfl rfl rfl (by decide +kernel) ⟨Nat.le_of_ble_eq_true rfl, Nat.le_of_ble_eq_true rfl⟩) hK hP (hP.sub [0, 1, 2, 3] rfl) rfl rfl rfl hl.1 rfl (Nat.le_of_ble_eq_true rfl) dX0_countRuns_12 ⟨Nat.le_of_ble_eq_true rfl, Nat.le_of_ble_eq_true rfl⟩ hS hA (fun H locs hP hz12 hS => ?_)
    refine lv_icmp_ne (tgt := 22) hx hb dX0_countRuns_15 (by decide) (fun c15 => ?_) (fun c15 => ?_)
    · have hf := it_f c15 hf
      refine lv_aload_n hx hb dX0_countRuns_22 rfl (lv_at hl 0 rfl) ?_
      refine va_get (D := G) (ci := 0) (v := .int cn) (C := RX0) (T := TX0) (N := 4) hx hb hts hinX0 hown hK.1 hP 0 rfl rfl 3 (by decide) w0 (fun _ h9 => h9) rfl dX0_countRuns_23 ?_
      refine lv_aload_n hx hb dX0_countRuns_26 rfl (lv_at hl 0 rfl) ?_
      obtain ⟨r27, hv27, hf⟩ := bd1_s hf
      refine roVi (As := []) (rest := [.int cn]) ⟨hx, hb, hml, hown, hts⟩ (zX0_firstTermWithSteps l G cI _ h a1 a2 a3 qs ts bs cn  hv27) (cwV 0 hts gX0_countRuns_X0_firstTermWithSteps rfl rfl rfl (by decide +kernel) ⟨Nat.le_of_ble_eq_true rfl, Nat.le_of_ble_eq_true rfl⟩) hK hP (hP.sub [0, 1, 2, 3] rfl) rfl rfl rfl hl.1 rfl (Nat.le_of_ble_eq_true rfl) dX0_countRuns_27 ⟨Nat.le_of_ble_eq_true rfl, Nat.le_of_ble_eq_true rfl⟩ hS hA (fun H locs hP hz27 hS => ?_)
      refine lv_isub hx hb dX0_countRuns_30 ?_
      refine qf_s (Qf := Qf) hf ?_
      rw [hQf]
      exact W.iret hx hb hr (fun t ht hW => ⟨⟨_, (), rfl, rfl, trivial⟩, hS.F ht⟩) hS.2.2 dX0_countRuns_31
    · have hf := it_t c15 hf
      refine lv_iconst (v := 0) hx hb dX0_countRuns_18 (by decide) ?_
      refine lv_goto (tgt := 31) hx hb dX0_countRuns_19 (by decide) ?_
      refine qf_s (Qf := Qf) hf ?_
      rw [hQf]
      exact W.iret hx hb hr (fun t ht hW => ⟨⟨_, (), rfl, rfl, trivial⟩, hS.F ht⟩) hS.2.2 dX0_countRuns_31
def fX0_stepsOfRun_J34 (qs : Nat → Int32) (cn : Int32) (x2 : Int32) (y0 : Int32) : Option (Int32) :=
  ckZ 2 <|
  if (x2 - x2 / 2 * 2) = 0 then
    some y0
  else
    some (-y0)
def fX0_stepsOfRun (qs : Nat → Int32) (cn : Int32) (p1 : Int32) : Option (Int32) :=
  bd1 (fX0_firstTermWithSteps qs) fun r2 =>
  nm (p1 + r2) fun v6 =>
  if v6 = (cn - 1) then
    ckI v6 32 <|
    fX0_stepsOfRun_J34  qs cn v6 ((qs (Int32.toNatClampNeg v6)) - 1)
  else
    ckI v6 32 <|
    fX0_stepsOfRun_J34  qs cn v6 (qs (Int32.toNatClampNeg v6))
set_option maxHeartbeats 4000000 in
set_option maxRecDepth 100000 in
theorem zX0_stepsOfRun (l : Launch) (G : va_G) (cI : ClassId) (sz : Nat) (h a1 a2 a3 : Nat) (qs : Nat → Int32) (ts : Nat → Int32) (bs : Nat → Int32) (cn : Int32) (p1 : Int32) {rv : Int32} (hf : fX0_stepsOfRun qs cn p1 = some rv) : mRi l yX0_stepsOfRun wsX0_stepsOfRun ({ frames := 1, cells := 0, slots := 0, locals := 20 }) [.ref h, .int p1] G cI [(h, .inr (0, [.ref a1, .ref a2, .ref a3, .int cn])), (a1, .inl (cI, 32, .inl qs)), (a2, .inl (cI, 33, .inl ts)), (a3, .inl (cI, 33, .inl bs))] sz rv := by
  refine Met.ofW (cc := cX0_stepsOfRun) (maxL := 4) (ret := (some .int)) (by decide) rfl ?_
  intro p e s m args below meth c s₁ B hml hv
  obtain ⟨rfl, hsz, hP, hK⟩ := hv
  have hx := B.exec
  have hb := B.bytes
  have hr := B.returns
  have hts := atoms_spec (ws := wsX0_stepsOfRun) B.pre
  have hown : s.vm.findClass RX0 = some m.cls := findClass_of_methodNamed B.named
  have hlocks := B.notSynchronized
  subst hsz
  generalize hAe : va_A [] s.heap.size = A
  have hA : ∀ q : Nat, s.heap.size ≤ q → A q := fun q h => by rw [← hAe]; exact Or.inr h
  have hS : va_S A s.heap s.heap [] := va_S.rf
  have w0 := hts (.fieldLink RX0 21 "SternDesk$Expansion" "count" "I") (by decide +kernel)
  have hinX0 : ∀ w ∈ u_ws RX0 TX0 4, w ∈ wsX0_stepsOfRun := by decide +kernel
  have w2 := hts (.fieldLink RX0 9 "SternDesk$Expansion" "quotients" "[I") (by decide +kernel)
  obtain ⟨Qf, hQf⟩ : ∃ f : Int32 → State → Prop, f = fun z => MQ below (va_Qi (fun (r : Int32) (_ : Unit) => r = z) (fun _ _ => True) A) ([.ref h, .int p1].toArray) s 0 0 A := ⟨_, rfl⟩
  suffices hgo : W p l e (headSpec wsX0_stepsOfRun ({ frames := 1, cells := 0, slots := 0, locals := 20 })).room s m ([.ref h, .int p1].toArray) below meth c s.heap [] 0 0 (Qf rv) (entryFrame m ([.ref h, .int p1].toArray) 4) by rw [hQf] at hgo; exact hgo
  have J34 : ∀ (x2 : Int32) (y0 : Int32) (H : Heap) (locs : List Loc) (ls : Array Slot), fX0_stepsOfRun_J34  qs cn x2 y0 = some rv → va_P G vwCl [(h, .inr (0, [.ref a1, .ref a2, .ref a3, .int cn])), (a1, .inl (cI, 32, .inl qs)), (a2, .inl (cI, 33, .inl ts)), (a3, .inl (cI, 33, .inl bs))] H → va_S A s.heap H locs → lv_has ls 4 [(2, .int x2)] → W p l e (headSpec wsX0_stepsOfRun ({ frames := 1, cells := 0, slots := 0, locals := 20 })).room s m ([.ref h, .int p1].toArray) below meth c H locs 0 0 (Qf rv) (F0 m 34 ls [.int y0]) := by
    intro   x2 y0 H locs ls hf hP hS hl
    unfold fX0_stepsOfRun_J34 at hf
    refine lv_istore_n (lv' := [(3, .int y0), (2, .int x2)]) hx hb dX0_stepsOfRun_34 rfl hl (by decide) rfl (fun ls hl => ?_)
    refine lv_iload_n hx hb dX0_stepsOfRun_35 rfl (lv_at hl 1 rfl) ?_
    refine lv_iconst (v := 2) hx hb dX0_stepsOfRun_36 (by decide) ?_
    obtain ⟨hz37, hf⟩ := ckZ_s hf
    refine lv_irem hx hb dX0_stepsOfRun_37 hz37 ?_
    refine lv_if_ne (tgt := 45) hx hb dX0_stepsOfRun_38 (by decide) (fun c38 => ?_) (fun c38 => ?_)
    · have hf := it_f c38 hf
      refine lv_iload_n hx hb dX0_stepsOfRun_45 rfl (lv_at hl 0 rfl) ?_
      refine lv_ineg hx hb dX0_stepsOfRun_46 ?_
      refine qf_s (Qf := Qf) hf ?_
      rw [hQf]
      exact W.iret hx hb hr (fun t ht hW => ⟨⟨_, (), rfl, rfl, trivial⟩, hS.F ht⟩) hS.2.2 dX0_stepsOfRun_47
    · have hf := it_t c38 hf
      refine lv_iload_n hx hb dX0_stepsOfRun_41 rfl (lv_at hl 0 rfl) ?_
      refine lv_goto (tgt := 47) hx hb dX0_stepsOfRun_42 (by decide) ?_
      refine qf_s (Qf := Qf) hf ?_
      rw [hQf]
      exact W.iret hx hb hr (fun t ht hW => ⟨⟨_, (), rfl, rfl, trivial⟩, hS.F ht⟩) hS.2.2 dX0_stepsOfRun_47
  have hl := lv_entry ([.ref h, .int p1]) (n := 4) (Nat.le_of_ble_eq_true rfl)
  rw [lg_entry_eq]
  generalize (lg_sl ([.ref h, .int p1]) ++ List.replicate (4 - (lg_sl ([.ref h, .int p1])).length) Slot.unset).toArray = ls at hl ⊢
  have hl : lv_has ls 4 [(0, .ref h), (1, .int p1)] := hl
  unfold fX0_stepsOfRun at hf
  refine lv_iload_n hx hb dX0_stepsOfRun_0 rfl (lv_at hl 1 rfl) ?_
  refine lv_aload_n hx hb dX0_stepsOfRun_1 rfl (lv_at hl 0 rfl) ?_
  obtain ⟨r2, hv2, hf⟩ := bd1_s hf
  refine roVi (As := []) (rest := [.int p1]) ⟨hx, hb, hml, hown, hts⟩ (zX0_firstTermWithSteps l G cI _ h a1 a2 a3 qs ts bs cn  hv2) (cwV 0 hts gX0_stepsOfRun_X0_firstTermWithSteps rfl rfl rfl (by decide +kernel) ⟨Nat.le_of_ble_eq_true rfl, Nat.le_of_ble_eq_true rfl⟩) hK hP (hP.sub [0, 1, 2, 3] rfl) rfl rfl rfl hl.1 rfl (Nat.le_of_ble_eq_true rfl) dX0_stepsOfRun_2 ⟨Nat.le_of_ble_eq_true rfl, Nat.le_of_ble_eq_true rfl⟩ hS hA (fun H locs hP hz2 hS => ?_)
  refine lv_iadd hx hb dX0_stepsOfRun_5 ?_
  refine lv_topi (fun v6 ev6 => ?_)
  have hf := nm_s ev6 hf
  refine lv_istore_n (lv' := [(2, .int v6), (0, .ref h), (1, .int p1)]) hx hb dX0_stepsOfRun_6 rfl hl (by decide) rfl (fun ls hl => ?_)
  refine lv_iload_n hx hb dX0_stepsOfRun_7 rfl (lv_at hl 0 rfl) ?_
  refine lv_aload_n hx hb dX0_stepsOfRun_8 rfl (lv_at hl 1 rfl) ?_
  refine va_get (D := G) (ci := 0) (v := .int cn) (C := RX0) (T := TX0) (N := 4) hx hb hts hinX0 hown hK.1 hP 0 rfl rfl 3 (by decide) w0 (fun _ h9 => h9) rfl dX0_stepsOfRun_9 ?_
  refine lv_iconst (v := 1) hx hb dX0_stepsOfRun_12 (by decide) ?_
  refine lv_isub hx hb dX0_stepsOfRun_13 ?_
  refine lv_icmp_ne (tgt := 28) hx hb dX0_stepsOfRun_14 (by decide) (fun c14 => ?_) (fun c14 => ?_)
  · have hf := it_f c14 hf
    refine lv_aload_n hx hb dX0_stepsOfRun_28 rfl (lv_at hl 1 rfl) ?_
    refine va_get (D := G) (ci := 0) (v := .ref a1) (C := RX0) (T := TX0) (N := 4) hx hb hts hinX0 hown hK.1 hP 0 rfl rfl 0 (by decide) w2 (fun _ h9 => h9) rfl dX0_stepsOfRun_29 ?_
    refine lv_iload_n hx hb dX0_stepsOfRun_32 rfl (lv_at hl 0 rfl) ?_
    obtain ⟨hi33, hf⟩ := ckI_s hf
    refine va_iald hx hb hK.1 hP 1 0 rfl rfl hi33 dX0_stepsOfRun_33 ?_
    exact J34   v6 (qs (Int32.toNatClampNeg v6)) _ _ _ hf hP hS (lv_sub hl [0] rfl)
  · have hf := it_t c14 hf
    refine lv_aload_n hx hb dX0_stepsOfRun_17 rfl (lv_at hl 1 rfl) ?_
    refine va_get (D := G) (ci := 0) (v := .ref a1) (C := RX0) (T := TX0) (N := 4) hx hb hts hinX0 hown hK.1 hP 0 rfl rfl 0 (by decide) w2 (fun _ h9 => h9) rfl dX0_stepsOfRun_18 ?_
    refine lv_iload_n hx hb dX0_stepsOfRun_21 rfl (lv_at hl 0 rfl) ?_
    obtain ⟨hi22, hf⟩ := ckI_s hf
    refine va_iald hx hb hK.1 hP 1 0 rfl rfl hi22 dX0_stepsOfRun_22 ?_
    refine lv_iconst (v := 1) hx hb dX0_stepsOfRun_23 (by decide) ?_
    refine lv_isub hx hb dX0_stepsOfRun_24 ?_
    refine lv_goto (tgt := 34) hx hb dX0_stepsOfRun_25 (by decide) ?_
    exact J34   v6 ((qs (Int32.toNatClampNeg v6)) - 1) _ _ _ hf hP hS (lv_sub hl [0] rfl)
def fX1_init (ft : Int32) (fb : Int32) (p1 : Int32) (p2 : Int32) : Option (Int32 × Int32) :=
  some (p1, p2)
set_option maxHeartbeats 4000000 in
set_option maxRecDepth 100000 in
theorem zX1_init (l : Launch) (G : va_G) (cI : ClassId) (sz : Nat) (h : Nat) (ft : Int32) (fb : Int32) (p1 : Int32) (p2 : Int32) {o_ft : Int32} {o_fb : Int32} (hf : fX1_init ft fb p1 p2 = some (o_ft, o_fb)) : mMv l yX1_init wsX1_init ({ frames := 1, cells := 0, slots := 0, locals := 12 }) [.ref h, .int p1, .int p2] G cI [(h, .inr (1, [.int ft, .int fb]))] sz [(h, .inr (1, [.int o_ft, .int o_fb]))] 0 0 := by
  refine Met.ofW (cc := cX1_init) (maxL := 3) (ret := none) (by decide) rfl ?_
  intro p e s m args below meth c s₁ B hml hv
  obtain ⟨rfl, hsz, hP, hK, hD0⟩ := hv
  have hx := B.exec
  have hb := B.bytes
  have hr := B.returns
  have hts := atoms_spec (ws := wsX1_init) B.pre
  have hown : s.vm.findClass RX1 = some m.cls := findClass_of_methodNamed B.named
  have hlocks := B.notSynchronized
  have hin : meth.name = "<init>" := (name_of_methodNamed B.named B.method).1
  subst hsz
  have hD := hD0.self (sz := s.heap.size)
  generalize hAe : va_A [(h, .inr (1, [.int ft, .int fb]))] s.heap.size = A at hD ⊢
  have hA : ∀ q : Nat, s.heap.size ≤ q → A q := fun q h => by rw [← hAe]; exact Or.inr h
  have hS : va_S A s.heap s.heap [] := va_S.rf
  have w0 := hts (.methodLink RX1 1 objectInit) (by decide +kernel)
  have w1 := hts (.instanceMethod objectInit) (by decide +kernel)
  have w2 := hts (.code objectInit ⟨#[0xb1]⟩ 1 none) (by decide +kernel)
  have w3 := hts (.fieldLink RX1 7 "SternDesk$Fraction" "top" "I") (by decide +kernel)
  have hinX1 : ∀ w ∈ u_ws RX1 TX1 2, w ∈ wsX1_init := by decide +kernel
  have w5 := hts (.fieldLink RX1 13 "SternDesk$Fraction" "bottom" "I") (by decide +kernel)
  obtain ⟨Qf, hQf⟩ : ∃ f : (Int32 × Int32) → State → Prop, f = fun z => MQ below (va_Qv (fun (_ : Unit) => True) (fun _ t => va_P G vwCl [(h, .inr (1, [.int z.1, .int z.2]))] t.heap ∧ va_D A [(h, .inr (1, [.int z.1, .int z.2]))]) A) ([.ref h, .int p1, .int p2].toArray) s 0 0 A := ⟨_, rfl⟩
  suffices hgo : W p l e (headSpec wsX1_init ({ frames := 1, cells := 0, slots := 0, locals := 12 })).room s m ([.ref h, .int p1, .int p2].toArray) below meth c s.heap [] 0 0 (Qf (o_ft, o_fb)) (entryFrame m ([.ref h, .int p1, .int p2].toArray) 3) by rw [hQf] at hgo; exact hgo
  have hl := lv_entry ([.ref h, .int p1, .int p2]) (n := 3) (Nat.le_of_ble_eq_true rfl)
  rw [lg_entry_eq]
  generalize (lg_sl ([.ref h, .int p1, .int p2]) ++ List.replicate (3 - (lg_sl ([.ref h, .int p1, .int p2])).length) Slot.unset).toArray = ls at hl ⊢
  have hl : lv_has ls 3 [(0, .ref h), (1, .int p1), (2, .int p2)] := hl
  unfold fX1_init at hf
  refine lv_aload_n hx hb dX1_init_0 rfl (lv_at hl 0 rfl) ?_
  refine W.objInit hx hb hown w0 w1 w2 rfl (by rw [hml]; exact hl.1) rfl dX1_init_1 (Nat.le_of_ble_eq_true rfl) (Nat.le_of_ble_eq_true rfl) ?_
  refine W.eq (g2 := F0 m 4 ls []) rfl ?_
  refine lv_aload_n hx hb dX1_init_4 rfl (lv_at hl 0 rfl) ?_
  refine lv_iload_n hx hb dX1_init_5 rfl (lv_at hl 1 rfl) ?_
  refine va_putF (D := G) (ci := 1) (v := .int p1) (ty := .int) (C := RX1) (T := TX1) (N := 2) hx hb hts hinX1 tyX1 tyX1_ok nmX1 hown hK.1 hP hD hS 0 rfl rfl 0 (by decide) w3 (fun _ h9 => h9) rfl hin rfl (by decide +kernel) rfl rfl (Nat.le_of_ble_eq_true rfl) dX1_init_6 (fun H locs hP hD hS => ?_)
  have hP : va_P G vwCl [(h, .inr (1, [.int p1, .int fb]))] H := hP
  have hD : va_D A [(h, .inr (1, [.int p1, .int fb]))] := hD
  refine lv_aload_n hx hb dX1_init_9 rfl (lv_at hl 0 rfl) ?_
  refine lv_iload_n hx hb dX1_init_10 rfl (lv_at hl 2 rfl) ?_
  refine va_putF (D := G) (ci := 1) (v := .int p2) (ty := .int) (C := RX1) (T := TX1) (N := 2) hx hb hts hinX1 tyX1 tyX1_ok nmX1 hown hK.1 hP hD hS 0 rfl rfl 1 (by decide) w5 (fun _ h9 => h9) rfl hin rfl (by decide +kernel) rfl rfl (Nat.le_of_ble_eq_true rfl) dX1_init_11 (fun H locs hP hD hS => ?_)
  have hP : va_P G vwCl [(h, .inr (1, [.int p1, .int p2]))] H := hP
  have hD : va_D A [(h, .inr (1, [.int p1, .int p2]))] := hD
  refine qf_s (Qf := Qf) hf ?_
  have hP9 : va_P G vwCl [(h, .inr (1, [.int p1, .int p2]))] _ := hP.sub [0] rfl
  have hD9 : va_D A [(h, .inr (1, [.int p1, .int p2]))] := hD.sub [0] (by decide) rfl
  rw [hQf]
  exact W.vret hx hb hr (fun t ht hW => ⟨⟨(), rfl, trivial, by rw [ht]; exact hP9, hD9⟩, hS.F ht⟩) hS.2.2 dX1_init_14
def fX0_lastWithin_J24 (k4 : Int32 → Int32 → Int32 → Option (Int32)) (bs : Nat → Int32) (cn : Int32) (x1 : Int32) (x2 : Int32) (x3 : Int32) : Option (Int32) :=
  nm (x3 + 1) fun v24 =>
  k4 x1 x2 v24
def fX0_lastWithin_B4 (k4 : Int32 → Int32 → Int32 → Option (Int32)) (bs : Nat → Int32) (cn : Int32) (x1 : Int32) (x2 : Int32) (x3 : Int32) : Option (Int32) :=
  if cn < x3 then
    some x2
  else
    ckI x3 33 <|
    if x1 < (bs (Int32.toNatClampNeg x3)) then
      fX0_lastWithin_J24 k4 bs cn x1 x2 x3
    else
      fX0_lastWithin_J24 k4 bs cn x1 x3 x3
def fX0_lastWithin_L4 (bs : Nat → Int32) (cn : Int32) : Nat → Int32 → Int32 → Int32 → Option (Int32)
  | 0, _, _, _ => none
  | n + 1, x1, x2, x3 => fX0_lastWithin_B4 (fX0_lastWithin_L4  bs cn n) bs cn x1 x2 x3
def fX0_lastWithin (bs : Nat → Int32) (cn : Int32) (p1 : Int32) : Option (Int32) :=
  fX0_lastWithin_L4  bs cn FU p1 1 2
set_option maxHeartbeats 4000000 in
set_option maxRecDepth 100000 in
theorem zX0_lastWithin (l : Launch) (G : va_G) (cI : ClassId) (sz : Nat) (h a1 a2 a3 : Nat) (qs : Nat → Int32) (ts : Nat → Int32) (bs : Nat → Int32) (cn : Int32) (p1 : Int32) {rv : Int32} (hf : fX0_lastWithin bs cn p1 = some rv) : mRi l yX0_lastWithin wsX0_lastWithin ({ frames := 0, cells := 0, slots := 0, locals := 0 }) [.ref h, .int p1] G cI [(h, .inr (0, [.ref a1, .ref a2, .ref a3, .int cn])), (a1, .inl (cI, 32, .inl qs)), (a2, .inl (cI, 33, .inl ts)), (a3, .inl (cI, 33, .inl bs))] sz rv := by
  refine Met.ofW (cc := cX0_lastWithin) (maxL := 4) (ret := (some .int)) (by decide) rfl ?_
  intro p e s m args below meth c s₁ B hml hv
  obtain ⟨rfl, hsz, hP, hK⟩ := hv
  have hx := B.exec
  have hb := B.bytes
  have hr := B.returns
  have hts := atoms_spec (ws := wsX0_lastWithin) B.pre
  have hown : s.vm.findClass RX0 = some m.cls := findClass_of_methodNamed B.named
  have hlocks := B.notSynchronized
  subst hsz
  generalize hAe : va_A [] s.heap.size = A
  have hA : ∀ q : Nat, s.heap.size ≤ q → A q := fun q h => by rw [← hAe]; exact Or.inr h
  have hS : va_S A s.heap s.heap [] := va_S.rf
  have w0 := hts (.fieldLink RX0 21 "SternDesk$Expansion" "count" "I") (by decide +kernel)
  have hinX0 : ∀ w ∈ u_ws RX0 TX0 4, w ∈ wsX0_lastWithin := by decide +kernel
  have w2 := hts (.fieldLink RX0 18 "SternDesk$Expansion" "bottoms" "[I") (by decide +kernel)
  obtain ⟨Qf, hQf⟩ : ∃ f : Int32 → State → Prop, f = fun z => MQ below (va_Qi (fun (r : Int32) (_ : Unit) => r = z) (fun _ _ => True) A) ([.ref h, .int p1].toArray) s 0 0 A := ⟨_, rfl⟩
  suffices hgo : W p l e (headSpec wsX0_lastWithin ({ frames := 0, cells := 0, slots := 0, locals := 0 })).room s m ([.ref h, .int p1].toArray) below meth c s.heap [] 0 0 (Qf rv) (entryFrame m ([.ref h, .int p1].toArray) 4) by rw [hQf] at hgo; exact hgo
  have J24 : ∀ (k4 : Int32 → Int32 → Int32 → Option (Int32)) (hk4 : ∀ (x1 : Int32) (x2 : Int32) (x3 : Int32) (H : Heap) (locs : List Loc) (ls : Array Slot), k4 x1 x2 x3 = some rv → va_P G vwCl [(h, .inr (0, [.ref a1, .ref a2, .ref a3, .int cn])), (a1, .inl (cI, 32, .inl qs)), (a2, .inl (cI, 33, .inl ts)), (a3, .inl (cI, 33, .inl bs))] H → va_S A s.heap H locs → lv_has ls 4 [(0, .ref h), (1, .int x1), (2, .int x2), (3, .int x3)] → W p l e (headSpec wsX0_lastWithin ({ frames := 0, cells := 0, slots := 0, locals := 0 })).room s m ([.ref h, .int p1].toArray) below meth c H locs 0 0 (Qf rv) (F0 m 4 ls [])) (x1 : Int32) (x2 : Int32) (x3 : Int32) (H : Heap) (locs : List Loc) (ls : Array Slot), fX0_lastWithin_J24 k4 bs cn x1 x2 x3 = some rv → va_P G vwCl [(h, .inr (0, [.ref a1, .ref a2, .ref a3, .int cn])), (a1, .inl (cI, 32, .inl qs)), (a2, .inl (cI, 33, .inl ts)), (a3, .inl (cI, 33, .inl bs))] H → va_S A s.heap H locs → lv_has ls 4 [(0, .ref h), (1, .int x1), (2, .int x2), (3, .int x3)] → W p l e (headSpec wsX0_lastWithin ({ frames := 0, cells := 0, slots := 0, locals := 0 })).room s m ([.ref h, .int p1].toArray) below meth c H locs 0 0 (Qf rv) (F0 m 24 ls []) := by
    intro k4 hk4  x1 x2 x3 H locs ls hf hP hS hl
    unfold fX0_lastWithin_J24 at hf
    obtain ⟨v24, ev24⟩ : ∃ y : Int32, y = x3 + 1 := ⟨_, rfl⟩
    have hf := nm_s ev24 hf
    refine lv_iinc (v := v24) (lv' := [(3, .int v24), (0, .ref h), (1, .int x1), (2, .int x2)]) hx hb dX0_lastWithin_24 hl (k := 3) rfl (by rw [ev24]; rfl) (by decide) rfl (fun ls hl => ?_)
    refine lv_goto (tgt := 4) hx hb dX0_lastWithin_27 (by decide) ?_
    exact hk4  x1 x2 v24 _ _ _ hf hP hS (lv_sub hl [1, 2, 3, 0] rfl)
  have B4 : ∀ (k4 : Int32 → Int32 → Int32 → Option (Int32)) (hk4 : ∀ (x1 : Int32) (x2 : Int32) (x3 : Int32) (H : Heap) (locs : List Loc) (ls : Array Slot), k4 x1 x2 x3 = some rv → va_P G vwCl [(h, .inr (0, [.ref a1, .ref a2, .ref a3, .int cn])), (a1, .inl (cI, 32, .inl qs)), (a2, .inl (cI, 33, .inl ts)), (a3, .inl (cI, 33, .inl bs))] H → va_S A s.heap H locs → lv_has ls 4 [(0, .ref h), (1, .int x1), (2, .int x2), (3, .int x3)] → W p l e (headSpec wsX0_lastWithin ({ frames := 0, cells := 0, slots := 0, locals := 0 })).room s m ([.ref h, .int p1].toArray) below meth c H locs 0 0 (Qf rv) (F0 m 4 ls [])) (x1 : Int32) (x2 : Int32) (x3 : Int32) (H : Heap) (locs : List Loc) (ls : Array Slot), fX0_lastWithin_B4 k4 bs cn x1 x2 x3 = some rv → va_P G vwCl [(h, .inr (0, [.ref a1, .ref a2, .ref a3, .int cn])), (a1, .inl (cI, 32, .inl qs)), (a2, .inl (cI, 33, .inl ts)), (a3, .inl (cI, 33, .inl bs))] H → va_S A s.heap H locs → lv_has ls 4 [(0, .ref h), (1, .int x1), (2, .int x2), (3, .int x3)] → W p l e (headSpec wsX0_lastWithin ({ frames := 0, cells := 0, slots := 0, locals := 0 })).room s m ([.ref h, .int p1].toArray) below meth c H locs 0 0 (Qf rv) (F0 m 4 ls []) := by
    intro k4 hk4  x1 x2 x3 H locs ls hf hP hS hl
    unfold fX0_lastWithin_B4 at hf
    refine lv_iload_n hx hb dX0_lastWithin_4 rfl (lv_at hl 3 rfl) ?_
    refine lv_aload_n hx hb dX0_lastWithin_5 rfl (lv_at hl 0 rfl) ?_
    refine va_get (D := G) (ci := 0) (v := .int cn) (C := RX0) (T := TX0) (N := 4) hx hb hts hinX0 hown hK.1 hP 0 rfl rfl 3 (by decide) w0 (fun _ h9 => h9) rfl dX0_lastWithin_6 ?_
    refine lv_icmp_gt (tgt := 30) hx hb dX0_lastWithin_9 (by decide) (fun c9 => ?_) (fun c9 => ?_)
    · have hf := it_t c9 hf
      refine lv_iload_n hx hb dX0_lastWithin_30 rfl (lv_at hl 2 rfl) ?_
      refine qf_s (Qf := Qf) hf ?_
      rw [hQf]
      exact W.iret hx hb hr (fun t ht hW => ⟨⟨_, (), rfl, rfl, trivial⟩, hS.F ht⟩) hS.2.2 dX0_lastWithin_31
    · have hf := it_f c9 hf
      refine lv_aload_n hx hb dX0_lastWithin_12 rfl (lv_at hl 0 rfl) ?_
      refine va_get (D := G) (ci := 0) (v := .ref a3) (C := RX0) (T := TX0) (N := 4) hx hb hts hinX0 hown hK.1 hP 0 rfl rfl 2 (by decide) w2 (fun _ h9 => h9) rfl dX0_lastWithin_13 ?_
      refine lv_iload_n hx hb dX0_lastWithin_16 rfl (lv_at hl 3 rfl) ?_
      obtain ⟨hi17, hf⟩ := ckI_s hf
      refine va_iald hx hb hK.1 hP 3 0 rfl rfl hi17 dX0_lastWithin_17 ?_
      refine lv_iload_n hx hb dX0_lastWithin_18 rfl (lv_at hl 1 rfl) ?_
      refine lv_icmp_gt (tgt := 24) hx hb dX0_lastWithin_19 (by decide) (fun c19 => ?_) (fun c19 => ?_)
      · have hf := it_t c19 hf
        exact J24 k4 hk4  x1 x2 x3 _ _ _ hf hP hS (lv_sub hl [0, 1, 2, 3] rfl)
      · have hf := it_f c19 hf
        refine lv_iload_n hx hb dX0_lastWithin_22 rfl (lv_at hl 3 rfl) ?_
        refine lv_istore_n (lv' := [(2, .int x3), (0, .ref h), (1, .int x1), (3, .int x3)]) hx hb dX0_lastWithin_23 rfl hl (by decide) rfl (fun ls hl => ?_)
        exact J24 k4 hk4  x1 x3 x3 _ _ _ hf hP hS (lv_sub hl [1, 2, 0, 3] rfl)
  have L4 : ∀ (fu : Nat) (x1 : Int32) (x2 : Int32) (x3 : Int32) (H : Heap) (locs : List Loc) (ls : Array Slot), fX0_lastWithin_L4  bs cn fu x1 x2 x3 = some rv → va_P G vwCl [(h, .inr (0, [.ref a1, .ref a2, .ref a3, .int cn])), (a1, .inl (cI, 32, .inl qs)), (a2, .inl (cI, 33, .inl ts)), (a3, .inl (cI, 33, .inl bs))] H → va_S A s.heap H locs → lv_has ls 4 [(0, .ref h), (1, .int x1), (2, .int x2), (3, .int x3)] → W p l e (headSpec wsX0_lastWithin ({ frames := 0, cells := 0, slots := 0, locals := 0 })).room s m ([.ref h, .int p1].toArray) below meth c H locs 0 0 (Qf rv) (F0 m 4 ls []) := by
    intro  fu
    induction fu with
    | zero => intro  x1 x2 x3 H locs ls hf; cases hf
    | succ fu ih => intro  x1 x2 x3 H locs ls hf hP hS hl; exact B4 (fX0_lastWithin_L4  bs cn fu) ih  x1 x2 x3 _ _ _ hf hP hS hl
  have hl := lv_entry ([.ref h, .int p1]) (n := 4) (Nat.le_of_ble_eq_true rfl)
  rw [lg_entry_eq]
  generalize (lg_sl ([.ref h, .int p1]) ++ List.replicate (4 - (lg_sl ([.ref h, .int p1])).length) Slot.unset).toArray = ls at hl ⊢
  have hl : lv_has ls 4 [(0, .ref h), (1, .int p1)] := hl
  unfold fX0_lastWithin at hf
  refine lv_iconst (v := 1) hx hb dX0_lastWithin_0 (by decide) ?_
  refine lv_istore_n (lv' := [(2, .int 1), (0, .ref h), (1, .int p1)]) hx hb dX0_lastWithin_1 rfl hl (by decide) rfl (fun ls hl => ?_)
  refine lv_iconst (v := 2) hx hb dX0_lastWithin_2 (by decide) ?_
  refine lv_istore_n (lv' := [(3, .int 2), (2, .int 1), (0, .ref h), (1, .int p1)]) hx hb dX0_lastWithin_3 rfl hl (by decide) rfl (fun ls hl => ?_)
  exact L4  FU  p1 1 2 _ _ _ hf hP hS (lv_sub hl [2, 3, 1, 0] rfl)

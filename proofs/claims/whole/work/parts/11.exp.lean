def fX0_top (ts : Nat → Int32) (cn : Int32) : Option (Int32) :=
  ckI cn 33 <|
  some (ts (Int32.toNatClampNeg cn))
set_option maxHeartbeats 4000000 in
set_option maxRecDepth 100000 in
theorem zX0_top (l : Launch) (G : va_G) (cI : ClassId) (sz : Nat) (h a1 a2 a3 : Nat) (qs : Nat → Int32) (ts : Nat → Int32) (bs : Nat → Int32) (cn : Int32) {rv : Int32} (hf : fX0_top ts cn = some rv) : mRi l yX0_top wsX0_top ({ frames := 0, cells := 0, slots := 0, locals := 0 }) [.ref h] G cI [(h, .inr (0, [.ref a1, .ref a2, .ref a3, .int cn])), (a1, .inl (cI, 32, .inl qs)), (a2, .inl (cI, 33, .inl ts)), (a3, .inl (cI, 33, .inl bs))] sz rv := by
  refine Met.ofW (cc := cX0_top) (maxL := 1) (ret := (some .int)) (by decide) rfl ?_
  intro p e s m args below meth c s₁ B hml hv
  obtain ⟨rfl, hsz, hP, hK⟩ := hv
  have hx := B.exec
  have hb := B.bytes
  have hr := B.returns
  have hts := atoms_spec (ws := wsX0_top) B.pre
  have hown : s.vm.findClass RX0 = some m.cls := findClass_of_methodNamed B.named
  have hlocks := B.notSynchronized
  subst hsz
  generalize hAe : va_A [] s.heap.size = A
  have hA : ∀ q : Nat, s.heap.size ≤ q → A q := fun q h => by rw [← hAe]; exact Or.inr h
  have hS : va_S A s.heap s.heap [] := va_S.rf
  have w0 := hts (.fieldLink RX0 15 "SternDesk$Expansion" "tops" "[I") (by decide +kernel)
  have hinX0 : ∀ w ∈ u_ws RX0 TX0 4, w ∈ wsX0_top := by decide +kernel
  have w2 := hts (.fieldLink RX0 21 "SternDesk$Expansion" "count" "I") (by decide +kernel)
  obtain ⟨Qf, hQf⟩ : ∃ f : Int32 → State → Prop, f = fun z => MQ below (va_Qi (fun (r : Int32) (_ : Unit) => r = z) (fun _ _ => True) A) ([.ref h].toArray) s 0 0 A := ⟨_, rfl⟩
  suffices hgo : W p l e (headSpec wsX0_top ({ frames := 0, cells := 0, slots := 0, locals := 0 })).room s m ([.ref h].toArray) below meth c s.heap [] 0 0 (Qf rv) (entryFrame m ([.ref h].toArray) 1) by rw [hQf] at hgo; exact hgo
  have hl := lv_entry ([.ref h]) (n := 1) (Nat.le_of_ble_eq_true rfl)
  rw [lg_entry_eq]
  generalize (lg_sl ([.ref h]) ++ List.replicate (1 - (lg_sl ([.ref h])).length) Slot.unset).toArray = ls at hl ⊢
  have hl : lv_has ls 1 [(0, .ref h)] := hl
  unfold fX0_top at hf
  refine lv_aload_n hx hb dX0_top_0 rfl (lv_at hl 0 rfl) ?_
  refine va_get (D := G) (ci := 0) (v := .ref a2) (C := RX0) (T := TX0) (N := 4) hx hb hts hinX0 hown hK.1 hP 0 rfl rfl 1 (by decide) w0 (fun _ h9 => h9) rfl dX0_top_1 ?_
  refine lv_aload_n hx hb dX0_top_4 rfl (lv_at hl 0 rfl) ?_
  refine va_get (D := G) (ci := 0) (v := .int cn) (C := RX0) (T := TX0) (N := 4) hx hb hts hinX0 hown hK.1 hP 0 rfl rfl 3 (by decide) w2 (fun _ h9 => h9) rfl dX0_top_5 ?_
  obtain ⟨hi8, hf⟩ := ckI_s hf
  refine va_iald hx hb hK.1 hP 2 0 rfl rfl hi8 dX0_top_8 ?_
  refine qf_s (Qf := Qf) hf ?_
  rw [hQf]
  exact W.iret hx hb hr (fun t ht hW => ⟨⟨_, (), rfl, rfl, trivial⟩, hS.F ht⟩) hS.2.2 dX0_top_9
def fX0_bottom (bs : Nat → Int32) (cn : Int32) : Option (Int32) :=
  ckI cn 33 <|
  some (bs (Int32.toNatClampNeg cn))
set_option maxHeartbeats 4000000 in
set_option maxRecDepth 100000 in
theorem zX0_bottom (l : Launch) (G : va_G) (cI : ClassId) (sz : Nat) (h a1 a2 a3 : Nat) (qs : Nat → Int32) (ts : Nat → Int32) (bs : Nat → Int32) (cn : Int32) {rv : Int32} (hf : fX0_bottom bs cn = some rv) : mRi l yX0_bottom wsX0_bottom ({ frames := 0, cells := 0, slots := 0, locals := 0 }) [.ref h] G cI [(h, .inr (0, [.ref a1, .ref a2, .ref a3, .int cn])), (a1, .inl (cI, 32, .inl qs)), (a2, .inl (cI, 33, .inl ts)), (a3, .inl (cI, 33, .inl bs))] sz rv := by
  refine Met.ofW (cc := cX0_bottom) (maxL := 1) (ret := (some .int)) (by decide) rfl ?_
  intro p e s m args below meth c s₁ B hml hv
  obtain ⟨rfl, hsz, hP, hK⟩ := hv
  have hx := B.exec
  have hb := B.bytes
  have hr := B.returns
  have hts := atoms_spec (ws := wsX0_bottom) B.pre
  have hown : s.vm.findClass RX0 = some m.cls := findClass_of_methodNamed B.named
  have hlocks := B.notSynchronized
  subst hsz
  generalize hAe : va_A [] s.heap.size = A
  have hA : ∀ q : Nat, s.heap.size ≤ q → A q := fun q h => by rw [← hAe]; exact Or.inr h
  have hS : va_S A s.heap s.heap [] := va_S.rf
  have w0 := hts (.fieldLink RX0 18 "SternDesk$Expansion" "bottoms" "[I") (by decide +kernel)
  have hinX0 : ∀ w ∈ u_ws RX0 TX0 4, w ∈ wsX0_bottom := by decide +kernel
  have w2 := hts (.fieldLink RX0 21 "SternDesk$Expansion" "count" "I") (by decide +kernel)
  obtain ⟨Qf, hQf⟩ : ∃ f : Int32 → State → Prop, f = fun z => MQ below (va_Qi (fun (r : Int32) (_ : Unit) => r = z) (fun _ _ => True) A) ([.ref h].toArray) s 0 0 A := ⟨_, rfl⟩
  suffices hgo : W p l e (headSpec wsX0_bottom ({ frames := 0, cells := 0, slots := 0, locals := 0 })).room s m ([.ref h].toArray) below meth c s.heap [] 0 0 (Qf rv) (entryFrame m ([.ref h].toArray) 1) by rw [hQf] at hgo; exact hgo
  have hl := lv_entry ([.ref h]) (n := 1) (Nat.le_of_ble_eq_true rfl)
  rw [lg_entry_eq]
  generalize (lg_sl ([.ref h]) ++ List.replicate (1 - (lg_sl ([.ref h])).length) Slot.unset).toArray = ls at hl ⊢
  have hl : lv_has ls 1 [(0, .ref h)] := hl
  unfold fX0_bottom at hf
  refine lv_aload_n hx hb dX0_bottom_0 rfl (lv_at hl 0 rfl) ?_
  refine va_get (D := G) (ci := 0) (v := .ref a3) (C := RX0) (T := TX0) (N := 4) hx hb hts hinX0 hown hK.1 hP 0 rfl rfl 2 (by decide) w0 (fun _ h9 => h9) rfl dX0_bottom_1 ?_
  refine lv_aload_n hx hb dX0_bottom_4 rfl (lv_at hl 0 rfl) ?_
  refine va_get (D := G) (ci := 0) (v := .int cn) (C := RX0) (T := TX0) (N := 4) hx hb hts hinX0 hown hK.1 hP 0 rfl rfl 3 (by decide) w2 (fun _ h9 => h9) rfl dX0_bottom_5 ?_
  obtain ⟨hi8, hf⟩ := ckI_s hf
  refine va_iald hx hb hK.1 hP 3 0 rfl rfl hi8 dX0_bottom_8 ?_
  refine qf_s (Qf := Qf) hf ?_
  rw [hQf]
  exact W.iret hx hb hr (fun t ht hW => ⟨⟨_, (), rfl, rfl, trivial⟩, hS.F ht⟩) hS.2.2 dX0_bottom_9
def fX0_topBefore (ts : Nat → Int32) (cn : Int32) : Option (Int32) :=
  if cn ≤ 0 then
    some 0
  else
    ckI (cn - 1) 33 <|
    some (ts (Int32.toNatClampNeg (cn - 1)))
set_option maxHeartbeats 4000000 in
set_option maxRecDepth 100000 in
theorem zX0_topBefore (l : Launch) (G : va_G) (cI : ClassId) (sz : Nat) (h a1 a2 a3 : Nat) (qs : Nat → Int32) (ts : Nat → Int32) (bs : Nat → Int32) (cn : Int32) {rv : Int32} (hf : fX0_topBefore ts cn = some rv) : mRi l yX0_topBefore wsX0_topBefore ({ frames := 0, cells := 0, slots := 0, locals := 0 }) [.ref h] G cI [(h, .inr (0, [.ref a1, .ref a2, .ref a3, .int cn])), (a1, .inl (cI, 32, .inl qs)), (a2, .inl (cI, 33, .inl ts)), (a3, .inl (cI, 33, .inl bs))] sz rv := by
  refine Met.ofW (cc := cX0_topBefore) (maxL := 1) (ret := (some .int)) (by decide) rfl ?_
  intro p e s m args below meth c s₁ B hml hv
  obtain ⟨rfl, hsz, hP, hK⟩ := hv
  have hx := B.exec
  have hb := B.bytes
  have hr := B.returns
  have hts := atoms_spec (ws := wsX0_topBefore) B.pre
  have hown : s.vm.findClass RX0 = some m.cls := findClass_of_methodNamed B.named
  have hlocks := B.notSynchronized
  subst hsz
  generalize hAe : va_A [] s.heap.size = A
  have hA : ∀ q : Nat, s.heap.size ≤ q → A q := fun q h => by rw [← hAe]; exact Or.inr h
  have hS : va_S A s.heap s.heap [] := va_S.rf
  have w0 := hts (.fieldLink RX0 21 "SternDesk$Expansion" "count" "I") (by decide +kernel)
  have hinX0 : ∀ w ∈ u_ws RX0 TX0 4, w ∈ wsX0_topBefore := by decide +kernel
  have w2 := hts (.fieldLink RX0 15 "SternDesk$Expansion" "tops" "[I") (by decide +kernel)
  obtain ⟨Qf, hQf⟩ : ∃ f : Int32 → State → Prop, f = fun z => MQ below (va_Qi (fun (r : Int32) (_ : Unit) => r = z) (fun _ _ => True) A) ([.ref h].toArray) s 0 0 A := ⟨_, rfl⟩
  suffices hgo : W p l e (headSpec wsX0_topBefore ({ frames := 0, cells := 0, slots := 0, locals := 0 })).room s m ([.ref h].toArray) below meth c s.heap [] 0 0 (Qf rv) (entryFrame m ([.ref h].toArray) 1) by rw [hQf] at hgo; exact hgo
  have hl := lv_entry ([.ref h]) (n := 1) (Nat.le_of_ble_eq_true rfl)
  rw [lg_entry_eq]
  generalize (lg_sl ([.ref h]) ++ List.replicate (1 - (lg_sl ([.ref h])).length) Slot.unset).toArray = ls at hl ⊢
  have hl : lv_has ls 1 [(0, .ref h)] := hl
  unfold fX0_topBefore at hf
  refine lv_aload_n hx hb dX0_topBefore_0 rfl (lv_at hl 0 rfl) ?_
  refine va_get (D := G) (ci := 0) (v := .int cn) (C := RX0) (T := TX0) (N := 4) hx hb hts hinX0 hown hK.1 hP 0 rfl rfl 3 (by decide) w0 (fun _ h9 => h9) rfl dX0_topBefore_1 ?_
  refine lv_if_le (tgt := 21) hx hb dX0_topBefore_4 (by decide) (fun c4 => ?_) (fun c4 => ?_)
  · have hf := it_t c4 hf
    refine lv_iconst (v := 0) hx hb dX0_topBefore_21 (by decide) ?_
    refine qf_s (Qf := Qf) hf ?_
    rw [hQf]
    exact W.iret hx hb hr (fun t ht hW => ⟨⟨_, (), rfl, rfl, trivial⟩, hS.F ht⟩) hS.2.2 dX0_topBefore_22
  · have hf := it_f c4 hf
    refine lv_aload_n hx hb dX0_topBefore_7 rfl (lv_at hl 0 rfl) ?_
    refine va_get (D := G) (ci := 0) (v := .ref a2) (C := RX0) (T := TX0) (N := 4) hx hb hts hinX0 hown hK.1 hP 0 rfl rfl 1 (by decide) w2 (fun _ h9 => h9) rfl dX0_topBefore_8 ?_
    refine lv_aload_n hx hb dX0_topBefore_11 rfl (lv_at hl 0 rfl) ?_
    refine va_get (D := G) (ci := 0) (v := .int cn) (C := RX0) (T := TX0) (N := 4) hx hb hts hinX0 hown hK.1 hP 0 rfl rfl 3 (by decide) w0 (fun _ h9 => h9) rfl dX0_topBefore_12 ?_
    refine lv_iconst (v := 1) hx hb dX0_topBefore_15 (by decide) ?_
    refine lv_isub hx hb dX0_topBefore_16 ?_
    obtain ⟨hi17, hf⟩ := ckI_s hf
    refine va_iald hx hb hK.1 hP 2 0 rfl rfl hi17 dX0_topBefore_17 ?_
    refine lv_goto (tgt := 22) hx hb dX0_topBefore_18 (by decide) ?_
    refine qf_s (Qf := Qf) hf ?_
    rw [hQf]
    exact W.iret hx hb hr (fun t ht hW => ⟨⟨_, (), rfl, rfl, trivial⟩, hS.F ht⟩) hS.2.2 dX0_topBefore_22
def fX0_bottomBefore (bs : Nat → Int32) (cn : Int32) : Option (Int32) :=
  if cn ≤ 0 then
    some 1
  else
    ckI (cn - 1) 33 <|
    some (bs (Int32.toNatClampNeg (cn - 1)))
set_option maxHeartbeats 4000000 in
set_option maxRecDepth 100000 in
theorem zX0_bottomBefore (l : Launch) (G : va_G) (cI : ClassId) (sz : Nat) (h a1 a2 a3 : Nat) (qs : Nat → Int32) (ts : Nat → Int32) (bs : Nat → Int32) (cn : Int32) {rv : Int32} (hf : fX0_bottomBefore bs cn = some rv) : mRi l yX0_bottomBefore wsX0_bottomBefore ({ frames := 0, cells := 0, slots := 0, locals := 0 }) [.ref h] G cI [(h, .inr (0, [.ref a1, .ref a2, .ref a3, .int cn])), (a1, .inl (cI, 32, .inl qs)), (a2, .inl (cI, 33, .inl ts)), (a3, .inl (cI, 33, .inl bs))] sz rv := by
  refine Met.ofW (cc := cX0_bottomBefore) (maxL := 1) (ret := (some .int)) (by decide) rfl ?_
  intro p e s m args below meth c s₁ B hml hv
  obtain ⟨rfl, hsz, hP, hK⟩ := hv
  have hx := B.exec
  have hb := B.bytes
  have hr := B.returns
  have hts := atoms_spec (ws := wsX0_bottomBefore) B.pre
  have hown : s.vm.findClass RX0 = some m.cls := findClass_of_methodNamed B.named
  have hlocks := B.notSynchronized
  subst hsz
  generalize hAe : va_A [] s.heap.size = A
  have hA : ∀ q : Nat, s.heap.size ≤ q → A q := fun q h => by rw [← hAe]; exact Or.inr h
  have hS : va_S A s.heap s.heap [] := va_S.rf
  have w0 := hts (.fieldLink RX0 21 "SternDesk$Expansion" "count" "I") (by decide +kernel)
  have hinX0 : ∀ w ∈ u_ws RX0 TX0 4, w ∈ wsX0_bottomBefore := by decide +kernel
  have w2 := hts (.fieldLink RX0 18 "SternDesk$Expansion" "bottoms" "[I") (by decide +kernel)
  obtain ⟨Qf, hQf⟩ : ∃ f : Int32 → State → Prop, f = fun z => MQ below (va_Qi (fun (r : Int32) (_ : Unit) => r = z) (fun _ _ => True) A) ([.ref h].toArray) s 0 0 A := ⟨_, rfl⟩
  suffices hgo : W p l e (headSpec wsX0_bottomBefore ({ frames := 0, cells := 0, slots := 0, locals := 0 })).room s m ([.ref h].toArray) below meth c s.heap [] 0 0 (Qf rv) (entryFrame m ([.ref h].toArray) 1) by rw [hQf] at hgo; exact hgo
  have hl := lv_entry ([.ref h]) (n := 1) (Nat.le_of_ble_eq_true rfl)
  rw [lg_entry_eq]
  generalize (lg_sl ([.ref h]) ++ List.replicate (1 - (lg_sl ([.ref h])).length) Slot.unset).toArray = ls at hl ⊢
  have hl : lv_has ls 1 [(0, .ref h)] := hl
  unfold fX0_bottomBefore at hf
  refine lv_aload_n hx hb dX0_bottomBefore_0 rfl (lv_at hl 0 rfl) ?_
  refine va_get (D := G) (ci := 0) (v := .int cn) (C := RX0) (T := TX0) (N := 4) hx hb hts hinX0 hown hK.1 hP 0 rfl rfl 3 (by decide) w0 (fun _ h9 => h9) rfl dX0_bottomBefore_1 ?_
  refine lv_if_le (tgt := 21) hx hb dX0_bottomBefore_4 (by decide) (fun c4 => ?_) (fun c4 => ?_)
  · have hf := it_t c4 hf
    refine lv_iconst (v := 1) hx hb dX0_bottomBefore_21 (by decide) ?_
    refine qf_s (Qf := Qf) hf ?_
    rw [hQf]
    exact W.iret hx hb hr (fun t ht hW => ⟨⟨_, (), rfl, rfl, trivial⟩, hS.F ht⟩) hS.2.2 dX0_bottomBefore_22
  · have hf := it_f c4 hf
    refine lv_aload_n hx hb dX0_bottomBefore_7 rfl (lv_at hl 0 rfl) ?_
    refine va_get (D := G) (ci := 0) (v := .ref a3) (C := RX0) (T := TX0) (N := 4) hx hb hts hinX0 hown hK.1 hP 0 rfl rfl 2 (by decide) w2 (fun _ h9 => h9) rfl dX0_bottomBefore_8 ?_
    refine lv_aload_n hx hb dX0_bottomBefore_11 rfl (lv_at hl 0 rfl) ?_
    refine va_get (D := G) (ci := 0) (v := .int cn) (C := RX0) (T := TX0) (N := 4) hx hb hts hinX0 hown hK.1 hP 0 rfl rfl 3 (by decide) w0 (fun _ h9 => h9) rfl dX0_bottomBefore_12 ?_
    refine lv_iconst (v := 1) hx hb dX0_bottomBefore_15 (by decide) ?_
    refine lv_isub hx hb dX0_bottomBefore_16 ?_
    obtain ⟨hi17, hf⟩ := ckI_s hf
    refine va_iald hx hb hK.1 hP 3 0 rfl rfl hi17 dX0_bottomBefore_17 ?_
    refine lv_goto (tgt := 22) hx hb dX0_bottomBefore_18 (by decide) ?_
    refine qf_s (Qf := Qf) hf ?_
    rw [hQf]
    exact W.iret hx hb hr (fun t ht hW => ⟨⟨_, (), rfl, rfl, trivial⟩, hS.F ht⟩) hS.2.2 dX0_bottomBefore_22
def fX0_startAnew (ts : Nat → Int32) (bs : Nat → Int32) (cn : Int32) : Option ((Nat → Int32) × (Nat → Int32) × Int32) :=
  ckI 0 33 <|
  nm (upd ts (Int32.toNatClampNeg 0) 1) fun ts11 =>
  ckI 0 33 <|
  nm (upd bs (Int32.toNatClampNeg 0) 0) fun bs18 =>
  some (ts11, bs18, 0)
set_option maxHeartbeats 4000000 in
set_option maxRecDepth 100000 in
theorem zX0_startAnew (l : Launch) (G : va_G) (cI : ClassId) (sz : Nat) (h a1 a2 a3 : Nat) (qs : Nat → Int32) (ts : Nat → Int32) (bs : Nat → Int32) (cn : Int32) {o_ts : Nat → Int32} {o_bs : Nat → Int32} {o_cn : Int32} (hf : fX0_startAnew ts bs cn = some (o_ts, o_bs, o_cn)) : mMv l yX0_startAnew wsX0_startAnew ({ frames := 0, cells := 0, slots := 0, locals := 0 }) [.ref h] G cI [(h, .inr (0, [.ref a1, .ref a2, .ref a3, .int cn])), (a1, .inl (cI, 32, .inl qs)), (a2, .inl (cI, 33, .inl ts)), (a3, .inl (cI, 33, .inl bs))] sz [(h, .inr (0, [.ref a1, .ref a2, .ref a3, .int o_cn])), (a1, .inl (cI, 32, .inl qs)), (a2, .inl (cI, 33, .inl o_ts)), (a3, .inl (cI, 33, .inl o_bs))] 0 0 := by
  refine Met.ofW (cc := cX0_startAnew) (maxL := 1) (ret := none) (by decide) rfl ?_
  intro p e s m args below meth c s₁ B hml hv
  obtain ⟨rfl, hsz, hP, hK, hD0⟩ := hv
  have hx := B.exec
  have hb := B.bytes
  have hr := B.returns
  have hts := atoms_spec (ws := wsX0_startAnew) B.pre
  have hown : s.vm.findClass RX0 = some m.cls := findClass_of_methodNamed B.named
  have hlocks := B.notSynchronized
  subst hsz
  have hD := hD0.self (sz := s.heap.size)
  generalize hAe : va_A [(h, .inr (0, [.ref a1, .ref a2, .ref a3, .int cn])), (a1, .inl (cI, 32, .inl qs)), (a2, .inl (cI, 33, .inl ts)), (a3, .inl (cI, 33, .inl bs))] s.heap.size = A at hD ⊢
  have hA : ∀ q : Nat, s.heap.size ≤ q → A q := fun q h => by rw [← hAe]; exact Or.inr h
  have hS : va_S A s.heap s.heap [] := va_S.rf
  have w0 := hts (.fieldLink RX0 21 "SternDesk$Expansion" "count" "I") (by decide +kernel)
  have hinX0 : ∀ w ∈ u_ws RX0 TX0 4, w ∈ wsX0_startAnew := by decide +kernel
  have w2 := hts (.fieldLink RX0 15 "SternDesk$Expansion" "tops" "[I") (by decide +kernel)
  have w3 := hts (.fieldLink RX0 18 "SternDesk$Expansion" "bottoms" "[I") (by decide +kernel)
  obtain ⟨Qf, hQf⟩ : ∃ f : ((Nat → Int32) × (Nat → Int32) × Int32) → State → Prop, f = fun z => MQ below (va_Qv (fun (_ : Unit) => True) (fun _ t => va_P G vwCl [(h, .inr (0, [.ref a1, .ref a2, .ref a3, .int z.2.2])), (a1, .inl (cI, 32, .inl qs)), (a2, .inl (cI, 33, .inl z.1)), (a3, .inl (cI, 33, .inl z.2.1))] t.heap ∧ va_D A [(h, .inr (0, [.ref a1, .ref a2, .ref a3, .int z.2.2])), (a1, .inl (cI, 32, .inl qs)), (a2, .inl (cI, 33, .inl z.1)), (a3, .inl (cI, 33, .inl z.2.1))]) A) ([.ref h].toArray) s 0 0 A := ⟨_, rfl⟩
  suffices hgo : W p l e (headSpec wsX0_startAnew ({ frames := 0, cells := 0, slots := 0, locals := 0 })).room s m ([.ref h].toArray) below meth c s.heap [] 0 0 (Qf (o_ts, o_bs, o_cn)) (entryFrame m ([.ref h].toArray) 1) by rw [hQf] at hgo; exact hgo
  have hl := lv_entry ([.ref h]) (n := 1) (Nat.le_of_ble_eq_true rfl)
  rw [lg_entry_eq]
  generalize (lg_sl ([.ref h]) ++ List.replicate (1 - (lg_sl ([.ref h])).length) Slot.unset).toArray = ls at hl ⊢
  have hl : lv_has ls 1 [(0, .ref h)] := hl
  unfold fX0_startAnew at hf
  refine lv_aload_n hx hb dX0_startAnew_0 rfl (lv_at hl 0 rfl) ?_
  refine lv_iconst (v := 0) hx hb dX0_startAnew_1 (by decide) ?_
  refine va_put (D := G) (ci := 0) (v := .int 0) (ty := .int) (C := RX0) (T := TX0) (N := 4) hx hb hts hinX0 tyX0 tyX0_ok nmX0 hown hK.1 hP hD hS 0 rfl rfl 3 (by decide) w0 (fun _ h9 => h9) rfl (by decide +kernel) rfl rfl (Nat.le_of_ble_eq_true rfl) dX0_startAnew_2 (fun H locs hP hD hS => ?_)
  have hP : va_P G vwCl [(h, .inr (0, [.ref a1, .ref a2, .ref a3, .int 0])), (a1, .inl (cI, 32, .inl qs)), (a2, .inl (cI, 33, .inl ts)), (a3, .inl (cI, 33, .inl bs))] H := hP
  have hD : va_D A [(h, .inr (0, [.ref a1, .ref a2, .ref a3, .int 0])), (a1, .inl (cI, 32, .inl qs)), (a2, .inl (cI, 33, .inl ts)), (a3, .inl (cI, 33, .inl bs))] := hD
  refine lv_aload_n hx hb dX0_startAnew_5 rfl (lv_at hl 0 rfl) ?_
  refine va_get (D := G) (ci := 0) (v := .ref a2) (C := RX0) (T := TX0) (N := 4) hx hb hts hinX0 hown hK.1 hP 0 rfl rfl 1 (by decide) w2 (fun _ h9 => h9) rfl dX0_startAnew_6 ?_
  refine lv_iconst (v := 0) hx hb dX0_startAnew_9 (by decide) ?_
  refine lv_iconst (v := 1) hx hb dX0_startAnew_10 (by decide) ?_
  obtain ⟨hi11, hf⟩ := ckI_s hf
  refine va_iast hx hb hK.1 hP hD hS 2 0 rfl rfl hi11 dX0_startAnew_11 (fun H locs hP hD hS => ?_)
  obtain ⟨ts11, ets11⟩ : ∃ z : Nat → Int32, z = upd ts (Int32.toNatClampNeg 0) 1 := ⟨_, rfl⟩
  have hf := nm_s ets11 hf
  rw [← ets11] at hP hD
  have hP : va_P G vwCl [(h, .inr (0, [.ref a1, .ref a2, .ref a3, .int 0])), (a1, .inl (cI, 32, .inl qs)), (a2, .inl (cI, 33, .inl ts11)), (a3, .inl (cI, 33, .inl bs))] H := hP
  have hD : va_D A [(h, .inr (0, [.ref a1, .ref a2, .ref a3, .int 0])), (a1, .inl (cI, 32, .inl qs)), (a2, .inl (cI, 33, .inl ts11)), (a3, .inl (cI, 33, .inl bs))] := hD
  refine lv_aload_n hx hb dX0_startAnew_12 rfl (lv_at hl 0 rfl) ?_
  refine va_get (D := G) (ci := 0) (v := .ref a3) (C := RX0) (T := TX0) (N := 4) hx hb hts hinX0 hown hK.1 hP 0 rfl rfl 2 (by decide) w3 (fun _ h9 => h9) rfl dX0_startAnew_13 ?_
  refine lv_iconst (v := 0) hx hb dX0_startAnew_16 (by decide) ?_
  refine lv_iconst (v := 0) hx hb dX0_startAnew_17 (by decide) ?_
  obtain ⟨hi18, hf⟩ := ckI_s hf
  refine va_iast hx hb hK.1 hP hD hS 3 0 rfl rfl hi18 dX0_startAnew_18 (fun H locs hP hD hS => ?_)
  obtain ⟨bs18, ebs18⟩ : ∃ z : Nat → Int32, z = upd bs (Int32.toNatClampNeg 0) 0 := ⟨_, rfl⟩
  have hf := nm_s ebs18 hf
  rw [← ebs18] at hP hD
  have hP : va_P G vwCl [(h, .inr (0, [.ref a1, .ref a2, .ref a3, .int 0])), (a1, .inl (cI, 32, .inl qs)), (a2, .inl (cI, 33, .inl ts11)), (a3, .inl (cI, 33, .inl bs18))] H := hP
  have hD : va_D A [(h, .inr (0, [.ref a1, .ref a2, .ref a3, .int 0])), (a1, .inl (cI, 32, .inl qs)), (a2, .inl (cI, 33, .inl ts11)), (a3, .inl (cI, 33, .inl bs18))] := hD
  refine qf_s (Qf := Qf) hf ?_
  have hP9 : va_P G vwCl [(h, .inr (0, [.ref a1, .ref a2, .ref a3, .int 0])), (a1, .inl (cI, 32, .inl qs)), (a2, .inl (cI, 33, .inl ts11)), (a3, .inl (cI, 33, .inl bs18))] _ := hP.sub [0, 1, 2, 3] rfl
  have hD9 : va_D A [(h, .inr (0, [.ref a1, .ref a2, .ref a3, .int 0])), (a1, .inl (cI, 32, .inl qs)), (a2, .inl (cI, 33, .inl ts11)), (a3, .inl (cI, 33, .inl bs18))] := hD.sub [0, 1, 2, 3] (by decide) rfl
  rw [hQf]
  exact W.vret hx hb hr (fun t ht hW => ⟨⟨(), rfl, trivial, by rw [ht]; exact hP9, hD9⟩, hS.F ht⟩) hS.2.2 dX0_startAnew_19
def fX0_addTerm (qs : Nat → Int32) (ts : Nat → Int32) (bs : Nat → Int32) (cn : Int32) (p1 : Int32) : Option ((Nat → Int32) × (Nat → Int32) × (Nat → Int32) × Int32) :=
  if cn < 32 then
    bd1 (fX0_top ts cn) fun r12 =>
    bd1 (fX0_topBefore ts cn) fun r17 =>
    nm ((p1 * r12) + r17) fun v21 =>
    bd1 (fX0_bottom bs cn) fun r24 =>
    bd1 (fX0_bottomBefore bs cn) fun r29 =>
    nm ((p1 * r24) + r29) fun v33 =>
    ckI cn 32 <|
    nm (upd qs (Int32.toNatClampNeg cn) p1) fun qs43 =>
    nm (cn + 1) fun v51 =>
    ckI v51 33 <|
    nm (upd ts (Int32.toNatClampNeg v51) v21) fun ts63 =>
    ckI v51 33 <|
    nm (upd bs (Int32.toNatClampNeg v51) v33) fun bs73 =>
    some (qs43, ts63, bs73, v51)
  else
    some (qs, ts, bs, cn)
set_option maxHeartbeats 4000000 in
set_option maxRecDepth 100000 in
theorem zX0_addTerm (l : Launch) (G : va_G) (cI : ClassId) (sz : Nat) (h a1 a2 a3 : Nat) (qs : Nat → Int32) (ts : Nat → Int32) (bs : Nat → Int32) (cn : Int32) (p1 : Int32) {o_qs : Nat → Int32} {o_ts : Nat → Int32} {o_bs : Nat → Int32} {o_cn : Int32} (hf : fX0_addTerm qs ts bs cn p1 = some (o_qs, o_ts, o_bs, o_cn)) : mMv l yX0_addTerm wsX0_addTerm ({ frames := 1, cells := 0, slots := 0, locals := 20 }) [.ref h, .int p1] G cI [(h, .inr (0, [.ref a1, .ref a2, .ref a3, .int cn])), (a1, .inl (cI, 32, .inl qs)), (a2, .inl (cI, 33, .inl ts)), (a3, .inl (cI, 33, .inl bs))] sz [(h, .inr (0, [.ref a1, .ref a2, .ref a3, .int o_cn])), (a1, .inl (cI, 32, .inl o_qs)), (a2, .inl (cI, 33, .inl o_ts)), (a3, .inl (cI, 33, .inl o_bs))] 0 0 := by
  refine Met.ofW (cc := cX0_addTerm) (maxL := 4) (ret := none) (by decide) rfl ?_
  intro p e s m args below meth c s₁ B hml hv
  obtain ⟨rfl, hsz, hP, hK, hD0⟩ := hv
  have hx := B.exec
  have hb := B.bytes
  have hr := B.returns
  have hts := atoms_spec (ws := wsX0_addTerm) B.pre
  have hown : s.vm.findClass RX0 = some m.cls := findClass_of_methodNamed B.named
  have hlocks := B.notSynchronized
  subst hsz
  have hD := hD0.self (sz := s.heap.size)
  generalize hAe : va_A [(h, .inr (0, [.ref a1, .ref a2, .ref a3, .int cn])), (a1, .inl (cI, 32, .inl qs)), (a2, .inl (cI, 33, .inl ts)), (a3, .inl (cI, 33, .inl bs))] s.heap.size = A at hD ⊢
  have hA : ∀ q : Nat, s.heap.size ≤ q → A q := fun q h => by rw [← hAe]; exact Or.inr h
  have hS : va_S A s.heap s.heap [] := va_S.rf
  have w0 := hts (.fieldLink RX0 21 "SternDesk$Expansion" "count" "I") (by decide +kernel)
  have hinX0 : ∀ w ∈ u_ws RX0 TX0 4, w ∈ wsX0_addTerm := by decide +kernel
  have w2 := hts (.fieldLink RX0 9 "SternDesk$Expansion" "quotients" "[I") (by decide +kernel)
  have w3 := hts (.fieldLink RX0 15 "SternDesk$Expansion" "tops" "[I") (by decide +kernel)
  have w4 := hts (.fieldLink RX0 18 "SternDesk$Expansion" "bottoms" "[I") (by decide +kernel)
  obtain ⟨Qf, hQf⟩ : ∃ f : ((Nat → Int32) × (Nat → Int32) × (Nat → Int32) × Int32) → State → Prop, f = fun z => MQ below (va_Qv (fun (_ : Unit) => True) (fun _ t => va_P G vwCl [(h, .inr (0, [.ref a1, .ref a2, .ref a3, .int z.2.2.2])), (a1, .inl (cI, 32, .inl z.1)), (a2, .inl (cI, 33, .inl z.2.1)), (a3, .inl (cI, 33, .inl z.2.2.1))] t.heap ∧ va_D A [(h, .inr (0, [.ref a1, .ref a2, .ref a3, .int z.2.2.2])), (a1, .inl (cI, 32, .inl z.1)), (a2, .inl (cI, 33, .inl z.2.1)), (a3, .inl (cI, 33, .inl z.2.2.1))]) A) ([.ref h, .int p1].toArray) s 0 0 A := ⟨_, rfl⟩
  suffices hgo : W p l e (headSpec wsX0_addTerm ({ frames := 1, cells := 0, slots := 0, locals := 20 })).room s m ([.ref h, .int p1].toArray) below meth c s.heap [] 0 0 (Qf (o_qs, o_ts, o_bs, o_cn)) (entryFrame m ([.ref h, .int p1].toArray) 4) by rw [hQf] at hgo; exact hgo
  have hl := lv_entry ([.ref h, .int p1]) (n := 4) (Nat.le_of_ble_eq_true rfl)
  rw [lg_entry_eq]
  generalize (lg_sl ([.ref h, .int p1]) ++ List.replicate (4 - (lg_sl ([.ref h, .int p1])).length) Slot.unset).toArray = ls at hl ⊢
  have hl : lv_has ls 4 [(0, .ref h), (1, .int p1)] := hl
  unfold fX0_addTerm at hf
  refine lv_aload_n hx hb dX0_addTerm_0 rfl (lv_at hl 0 rfl) ?_
  refine va_get (D := G) (ci := 0) (v := .int cn) (C := RX0) (T := TX0) (N := 4) hx hb hts hinX0 hown hK.1 hP 0 rfl rfl 3 (by decide) w0 (fun _ h9 => h9) rfl dX0_addTerm_1 ?_
  refine lv_bipush (v := 32) hx hb dX0_addTerm_4 (by decide) ?_
  refine lv_icmp_lt (tgt := 10) hx hb dX0_addTerm_6 (by decide) (fun c6 => ?_) (fun c6 => ?_)
  · have hf := it_t c6 hf
    refine lv_iload_n hx hb dX0_addTerm_10 rfl (lv_at hl 1 rfl) ?_
    refine lv_aload_n hx hb dX0_addTerm_11 rfl (lv_at hl 0 rfl) ?_
    obtain ⟨r12, hv12, hf⟩ := bd1_s hf
    refine roVi (As := []) (rest := [.int p1]) ⟨hx, hb, hml, hown, hts⟩ (zX0_top l G cI _ h a1 a2 a3 qs ts bs cn  hv12) (cwV 0 hts gX0_addTerm_X0_top rfl rfl rfl (by decide +kernel) ⟨Nat.le_of_ble_eq_true rfl, Nat.le_of_ble_eq_true rfl⟩) hK hP (hP.sub [0, 1, 2, 3] rfl) rfl rfl rfl hl.1 rfl (Nat.le_of_ble_eq_true rfl) dX0_addTerm_12 ⟨Nat.le_of_ble_eq_true rfl, Nat.le_of_ble_eq_true rfl⟩ hS hA (fun H locs hP hz12 hS => ?_)
    refine lv_imul hx hb dX0_addTerm_15 ?_
    refine lv_aload_n hx hb dX0_addTerm_16 rfl (lv_at hl 0 rfl) ?_
    obtain ⟨r17, hv17, hf⟩ := bd1_s hf
    refine roVi (As := []) (rest := [.int (p1 * r12)]) ⟨hx, hb, hml, hown, hts⟩ (zX0_topBefore l G cI _ h a1 a2 a3 qs ts bs cn  hv17) (cwV 0 hts gX0_addTerm_X0_topBefore rfl rfl rfl (by decide +kernel) ⟨Nat.le_of_ble_eq_true rfl, Nat.le_of_ble_eq_true rfl⟩) hK hP (hP.sub [0, 1, 2, 3] rfl) rfl rfl rfl hl.1 rfl (Nat.le_of_ble_eq_true rfl) dX0_addTerm_17 ⟨Nat.le_of_ble_eq_true rfl, Nat.le_of_ble_eq_true rfl⟩ hS hA (fun H locs hP hz17 hS => ?_)
    refine lv_iadd hx hb dX0_addTerm_20 ?_
    refine lv_topi (fun v21 ev21 => ?_)
    have hf := nm_s ev21 hf
    refine lv_istore_n (lv' := [(2, .int v21), (0, .ref h), (1, .int p1)]) hx hb dX0_addTerm_21 rfl hl (by decide) rfl (fun ls hl => ?_)
    refine lv_iload_n hx hb dX0_addTerm_22 rfl (lv_at hl 2 rfl) ?_
    refine lv_aload_n hx hb dX0_addTerm_23 rfl (lv_at hl 1 rfl) ?_
    obtain ⟨r24, hv24, hf⟩ := bd1_s hf
    refine roVi (As := []) (rest := [.int p1]) ⟨hx, hb, hml, hown, hts⟩ (zX0_bottom l G cI _ h a1 a2 a3 qs ts bs cn  hv24) (cwV 0 hts gX0_addTerm_X0_bottom rfl rfl rfl (by decide +kernel) ⟨Nat.le_of_ble_eq_true rfl, Nat.le_of_ble_eq_true rfl⟩) hK hP (hP.sub [0, 1, 2, 3] rfl) rfl rfl rfl hl.1 rfl (Nat.le_of_ble_eq_true rfl) dX0_addTerm_24 ⟨Nat.le_of_ble_eq_true rfl, Nat.le_of_ble_eq_true rfl⟩ hS hA (fun H locs hP hz24 hS => ?_)
    refine lv_imul hx hb dX0_addTerm_27 ?_
    refine lv_aload_n hx hb dX0_addTerm_28 rfl (lv_at hl 1 rfl) ?_
    obtain ⟨r29, hv29, hf⟩ := bd1_s hf
    refine roVi (As := []) (rest := [.int (p1 * r24)]) ⟨hx, hb, hml, hown, hts⟩ (zX0_bottomBefore l G cI _ h a1 a2 a3 qs ts bs cn  hv29) (cwV 0 hts gX0_addTerm_X0_bottomBefore rfl rfl rfl (by decide +kernel) ⟨Nat.le_of_ble_eq_true rfl, Nat.le_of_ble_eq_true rfl⟩) hK hP (hP.sub [0, 1, 2, 3] rfl) rfl rfl rfl hl.1 rfl (Nat.le_of_ble_eq_true rfl) dX0_addTerm_29 ⟨Nat.le_of_ble_eq_true rfl, Nat.le_of_ble_eq_true rfl⟩ hS hA (fun H locs hP hz29 hS => ?_)
    refine lv_iadd hx hb dX0_addTerm_32 ?_
    refine lv_topi (fun v33 ev33 => ?_)
    have hf := nm_s ev33 hf
    refine lv_istore_n (lv' := [(3, .int v33), (2, .int v21), (0, .ref h), (1, .int p1)]) hx hb dX0_addTerm_33 rfl hl (by decide) rfl (fun ls hl => ?_)
    refine lv_aload_n hx hb dX0_addTerm_34 rfl (lv_at hl 2 rfl) ?_
    refine va_get (D := G) (ci := 0) (v := .ref a1) (C := RX0) (T := TX0) (N := 4) hx hb hts hinX0 hown hK.1 hP 0 rfl rfl 0 (by decide) w2 (fun _ h9 => h9) rfl dX0_addTerm_35 ?_
    refine lv_aload_n hx hb dX0_addTerm_38 rfl (lv_at hl 2 rfl) ?_
    refine va_get (D := G) (ci := 0) (v := .int cn) (C := RX0) (T := TX0) (N := 4) hx hb hts hinX0 hown hK.1 hP 0 rfl rfl 3 (by decide) w0 (fun _ h9 => h9) rfl dX0_addTerm_39 ?_
    refine lv_iload_n hx hb dX0_addTerm_42 rfl (lv_at hl 3 rfl) ?_
    obtain ⟨hi43, hf⟩ := ckI_s hf
    refine va_iast hx hb hK.1 hP hD hS 1 0 rfl rfl hi43 dX0_addTerm_43 (fun H locs hP hD hS => ?_)
    obtain ⟨qs43, eqs43⟩ : ∃ z : Nat → Int32, z = upd qs (Int32.toNatClampNeg cn) p1 := ⟨_, rfl⟩
    have hf := nm_s eqs43 hf
    rw [← eqs43] at hP hD
    have hP : va_P G vwCl [(h, .inr (0, [.ref a1, .ref a2, .ref a3, .int cn])), (a1, .inl (cI, 32, .inl qs43)), (a2, .inl (cI, 33, .inl ts)), (a3, .inl (cI, 33, .inl bs))] H := hP
    have hD : va_D A [(h, .inr (0, [.ref a1, .ref a2, .ref a3, .int cn])), (a1, .inl (cI, 32, .inl qs43)), (a2, .inl (cI, 33, .inl ts)), (a3, .inl (cI, 33, .inl bs))] := hD
    refine lv_aload_n hx hb dX0_addTerm_44 rfl (lv_at hl 2 rfl) ?_
    refine lv_dup hx hb dX0_addTerm_45 rfl ?_
    refine va_get (D := G) (ci := 0) (v := .int cn) (C := RX0) (T := TX0) (N := 4) hx hb hts hinX0 hown hK.1 hP 0 rfl rfl 3 (by decide) w0 (fun _ h9 => h9) rfl dX0_addTerm_46 ?_
    refine lv_iconst (v := 1) hx hb dX0_addTerm_49 (by decide) ?_
    refine lv_iadd hx hb dX0_addTerm_50 ?_
    refine lv_topi (fun v51 ev51 => ?_)
    have hf := nm_s ev51 hf
    refine va_put (D := G) (ci := 0) (v := .int v51) (ty := .int) (C := RX0) (T := TX0) (N := 4) hx hb hts hinX0 tyX0 tyX0_ok nmX0 hown hK.1 hP hD hS 0 rfl rfl 3 (by decide) w0 (fun _ h9 => h9) rfl (by decide +kernel) rfl rfl (Nat.le_of_ble_eq_true rfl) dX0_addTerm_51 (fun H locs hP hD hS => ?_)
    have hP : va_P G vwCl [(h, .inr (0, [.ref a1, .ref a2, .ref a3, .int v51])), (a1, .inl (cI, 32, .inl qs43)), (a2, .inl (cI, 33, .inl ts)), (a3, .inl (cI, 33, .inl bs))] H := hP
    have hD : va_D A [(h, .inr (0, [.ref a1, .ref a2, .ref a3, .int v51])), (a1, .inl (cI, 32, .inl qs43)), (a2, .inl (cI, 33, .inl ts)), (a3, .inl (cI, 33, .inl bs))] := hD
    refine lv_aload_n hx hb dX0_addTerm_54 rfl (lv_at hl 2 rfl) ?_
    refine va_get (D := G) (ci := 0) (v := .ref a2) (C := RX0) (T := TX0) (N := 4) hx hb hts hinX0 hown hK.1 hP 0 rfl rfl 1 (by decide) w3 (fun _ h9 => h9) rfl dX0_addTerm_55 ?_
    refine lv_aload_n hx hb dX0_addTerm_58 rfl (lv_at hl 2 rfl) ?_
    refine va_get (D := G) (ci := 0) (v := .int v51) (C := RX0) (T := TX0) (N := 4) hx hb hts hinX0 hown hK.1 hP 0 rfl rfl 3 (by decide) w0 (fun _ h9 => h9) rfl dX0_addTerm_59 ?_
    refine lv_iload_n hx hb dX0_addTerm_62 rfl (lv_at hl 1 rfl) ?_
    obtain ⟨hi63, hf⟩ := ckI_s hf
    refine va_iast hx hb hK.1 hP hD hS 2 0 rfl rfl hi63 dX0_addTerm_63 (fun H locs hP hD hS => ?_)
    obtain ⟨ts63, ets63⟩ : ∃ z : Nat → Int32, z = upd ts (Int32.toNatClampNeg v51) v21 := ⟨_, rfl⟩
    have hf := nm_s ets63 hf
    rw [← ets63] at hP hD
    have hP : va_P G vwCl [(h, .inr (0, [.ref a1, .ref a2, .ref a3, .int v51])), (a1, .inl (cI, 32, .inl qs43)), (a2, .inl (cI, 33, .inl ts63)), (a3, .inl (cI, 33, .inl bs))] H := hP
    have hD : va_D A [(h, .inr (0, [.ref a1, .ref a2, .ref a3, .int v51])), (a1, .inl (cI, 32, .inl qs43)), (a2, .inl (cI, 33, .inl ts63)), (a3, .inl (cI, 33, .inl bs))] := hD
    refine lv_aload_n hx hb dX0_addTerm_64 rfl (lv_at hl 2 rfl) ?_
    refine va_get (D := G) (ci := 0) (v := .ref a3) (C := RX0) (T := TX0) (N := 4) hx hb hts hinX0 hown hK.1 hP 0 rfl rfl 2 (by decide) w4 (fun _ h9 => h9) rfl dX0_addTerm_65 ?_
    refine lv_aload_n hx hb dX0_addTerm_68 rfl (lv_at hl 2 rfl) ?_
    refine va_get (D := G) (ci := 0) (v := .int v51) (C := RX0) (T := TX0) (N := 4) hx hb hts hinX0 hown hK.1 hP 0 rfl rfl 3 (by decide) w0 (fun _ h9 => h9) rfl dX0_addTerm_69 ?_
    refine lv_iload_n hx hb dX0_addTerm_72 rfl (lv_at hl 0 rfl) ?_
    obtain ⟨hi73, hf⟩ := ckI_s hf
    refine va_iast hx hb hK.1 hP hD hS 3 0 rfl rfl hi73 dX0_addTerm_73 (fun H locs hP hD hS => ?_)
    obtain ⟨bs73, ebs73⟩ : ∃ z : Nat → Int32, z = upd bs (Int32.toNatClampNeg v51) v33 := ⟨_, rfl⟩
    have hf := nm_s ebs73 hf
    rw [← ebs73] at hP hD
    have hP : va_P G vwCl [(h, .inr (0, [.ref a1, .ref a2, .ref a3, .int v51])), (a1, .inl (cI, 32, .inl qs43)), (a2, .inl (cI, 33, .inl ts63)), (a3, .inl (cI, 33, .inl bs73))] H := hP
    have hD : va_D A [(h, .inr (0, [.ref a1, .ref a2, .ref a3, .int v51])), (a1, .inl (cI, 32, .inl qs43)), (a2, .inl (cI, 33, .inl ts63)), (a3, .inl (cI, 33, .inl bs73))] := hD
    refine qf_s (Qf := Qf) hf ?_
    have hP9 : va_P G vwCl [(h, .inr (0, [.ref a1, .ref a2, .ref a3, .int v51])), (a1, .inl (cI, 32, .inl qs43)), (a2, .inl (cI, 33, .inl ts63)), (a3, .inl (cI, 33, .inl bs73))] _ := hP.sub [0, 1, 2, 3] rfl
    have hD9 : va_D A [(h, .inr (0, [.ref a1, .ref a2, .ref a3, .int v51])), (a1, .inl (cI, 32, .inl qs43)), (a2, .inl (cI, 33, .inl ts63)), (a3, .inl (cI, 33, .inl bs73))] := hD.sub [0, 1, 2, 3] (by decide) rfl
    rw [hQf]
    exact W.vret hx hb hr (fun t ht hW => ⟨⟨(), rfl, trivial, by rw [ht]; exact hP9, hD9⟩, hS.F ht⟩) hS.2.2 dX0_addTerm_74
  · have hf := it_f c6 hf
    refine qf_s (Qf := Qf) hf ?_
    have hP9 : va_P G vwCl [(h, .inr (0, [.ref a1, .ref a2, .ref a3, .int cn])), (a1, .inl (cI, 32, .inl qs)), (a2, .inl (cI, 33, .inl ts)), (a3, .inl (cI, 33, .inl bs))] _ := hP.sub [0, 1, 2, 3] rfl
    have hD9 : va_D A [(h, .inr (0, [.ref a1, .ref a2, .ref a3, .int cn])), (a1, .inl (cI, 32, .inl qs)), (a2, .inl (cI, 33, .inl ts)), (a3, .inl (cI, 33, .inl bs))] := hD.sub [0, 1, 2, 3] (by decide) rfl
    rw [hQf]
    exact W.vret hx hb hr (fun t ht hW => ⟨⟨(), rfl, trivial, by rw [ht]; exact hP9, hD9⟩, hS.F ht⟩) hS.2.2 dX0_addTerm_9
def fX0_expand_B12 (k12 : (Nat → Int32) → (Nat → Int32) → (Nat → Int32) → Int32 → Int32 → Int32 → Int32 → Option ((Nat → Int32) × (Nat → Int32) × (Nat → Int32) × Int32)) (qs : Nat → Int32) (ts : Nat → Int32) (bs : Nat → Int32) (cn : Int32) (x3 : Int32) (x4 : Int32) (x5 : Int32) : Option ((Nat → Int32) × (Nat → Int32) × (Nat → Int32) × Int32) :=
  if 32 ≤ x5 then
    some (qs, ts, bs, cn)
  else
    if x4 ≤ 0 then
      some (qs, ts, bs, cn)
    else
      ckZ x4 <|
      nm (x3 / x4) fun v28 =>
      nm (x3 - (v28 * x4)) fun v37 =>
      bd4 (fX0_addTerm qs ts bs cn v28) fun qs_42 ts_42 bs_42 cn_42 =>
      nm (x5 + 1) fun v52 =>
      k12 qs_42 ts_42 bs_42 cn_42 x4 v37 v52
def fX0_expand_L12 : Nat → (Nat → Int32) → (Nat → Int32) → (Nat → Int32) → Int32 → Int32 → Int32 → Int32 → Option ((Nat → Int32) × (Nat → Int32) × (Nat → Int32) × Int32)
  | 0, _, _, _, _, _, _, _ => none
  | n + 1, qs, ts, bs, cn, x3, x4, x5 => fX0_expand_B12 (fX0_expand_L12   n)  qs ts bs cn x3 x4 x5
def fX0_expand (qs : Nat → Int32) (ts : Nat → Int32) (bs : Nat → Int32) (cn : Int32) (p1 : Int32) (p2 : Int32) : Option ((Nat → Int32) × (Nat → Int32) × (Nat → Int32) × Int32) :=
  bd3 (fX0_startAnew ts bs cn) fun ts_1 bs_1 cn_1 =>
  fX0_expand_L12   FU qs ts_1 bs_1 cn_1 p1 p2 0
set_option maxHeartbeats 4000000 in
set_option maxRecDepth 100000 in
theorem zX0_expand (l : Launch) (G : va_G) (cI : ClassId) (sz : Nat) (h a1 a2 a3 : Nat) (qs : Nat → Int32) (ts : Nat → Int32) (bs : Nat → Int32) (cn : Int32) (p1 : Int32) (p2 : Int32) {o_qs : Nat → Int32} {o_ts : Nat → Int32} {o_bs : Nat → Int32} {o_cn : Int32} (hf : fX0_expand qs ts bs cn p1 p2 = some (o_qs, o_ts, o_bs, o_cn)) : mMv l yX0_expand wsX0_expand ({ frames := 2, cells := 0, slots := 0, locals := 43 }) [.ref h, .int p1, .int p2] G cI [(h, .inr (0, [.ref a1, .ref a2, .ref a3, .int cn])), (a1, .inl (cI, 32, .inl qs)), (a2, .inl (cI, 33, .inl ts)), (a3, .inl (cI, 33, .inl bs))] sz [(h, .inr (0, [.ref a1, .ref a2, .ref a3, .int o_cn])), (a1, .inl (cI, 32, .inl o_qs)), (a2, .inl (cI, 33, .inl o_ts)), (a3, .inl (cI, 33, .inl o_bs))] 0 0 := by
  refine Met.ofW (cc := cX0_expand) (maxL := 8) (ret := none) (by decide) rfl ?_
  intro p e s m args below meth c s₁ B hml hv
  obtain ⟨rfl, hsz, hP, hK, hD0⟩ := hv
  have hx := B.exec
  have hb := B.bytes
  have hr := B.returns
  have hts := atoms_spec (ws := wsX0_expand) B.pre
  have hown : s.vm.findClass RX0 = some m.cls := findClass_of_methodNamed B.named
  have hlocks := B.notSynchronized
  subst hsz
  have hD := hD0.self (sz := s.heap.size)
  generalize hAe : va_A [(h, .inr (0, [.ref a1, .ref a2, .ref a3, .int cn])), (a1, .inl (cI, 32, .inl qs)), (a2, .inl (cI, 33, .inl ts)), (a3, .inl (cI, 33, .inl bs))] s.heap.size = A at hD ⊢
  have hA : ∀ q : Nat, s.heap.size ≤ q → A q := fun q h => by rw [← hAe]; exact Or.inr h
  have hS : va_S A s.heap s.heap [] := va_S.rf
  obtain ⟨Qf, hQf⟩ : ∃ f : ((Nat → Int32) × (Nat → Int32) × (Nat → Int32) × Int32) → State → Prop, f = fun z => MQ below (va_Qv (fun (_ : Unit) => True) (fun _ t => va_P G vwCl [(h, .inr (0, [.ref a1, .ref a2, .ref a3, .int z.2.2.2])), (a1, .inl (cI, 32, .inl z.1)), (a2, .inl (cI, 33, .inl z.2.1)), (a3, .inl (cI, 33, .inl z.2.2.1))] t.heap ∧ va_D A [(h, .inr (0, [.ref a1, .ref a2, .ref a3, .int z.2.2.2])), (a1, .inl (cI, 32, .inl z.1)), (a2, .inl (cI, 33, .inl z.2.1)), (a3, .inl (cI, 33, .inl z.2.2.1))]) A) ([.ref h, .int p1, .int p2].toArray) s 0 0 A := ⟨_, rfl⟩
  suffices hgo : W p l e (headSpec wsX0_expand ({ frames := 2, cells := 0, slots := 0, locals := 43 })).room s m ([.ref h, .int p1, .int p2].toArray) below meth c s.heap [] 0 0 (Qf (o_qs, o_ts, o_bs, o_cn)) (entryFrame m ([.ref h, .int p1, .int p2].toArray) 8) by rw [hQf] at hgo; exact hgo
  have B12 : ∀ (k12 : (Nat → Int32) → (Nat → Int32) → (Nat → Int32) → Int32 → Int32 → Int32 → Int32 → Option ((Nat → Int32) × (Nat → Int32) × (Nat → Int32) × Int32)) (hk12 : ∀ (qs : Nat → Int32) (ts : Nat → Int32) (bs : Nat → Int32) (cn : Int32) (x3 : Int32) (x4 : Int32) (x5 : Int32) (H : Heap) (locs : List Loc) (ls : Array Slot), k12 qs ts bs cn x3 x4 x5 = some (o_qs, o_ts, o_bs, o_cn) → va_P G vwCl [(h, .inr (0, [.ref a1, .ref a2, .ref a3, .int cn])), (a1, .inl (cI, 32, .inl qs)), (a2, .inl (cI, 33, .inl ts)), (a3, .inl (cI, 33, .inl bs))] H → va_D A [(h, .inr (0, [.ref a1, .ref a2, .ref a3, .int cn])), (a1, .inl (cI, 32, .inl qs)), (a2, .inl (cI, 33, .inl ts)), (a3, .inl (cI, 33, .inl bs))] → va_S A s.heap H locs → lv_has ls 8 [(0, .ref h), (3, .int x3), (4, .int x4), (5, .int x5)] → W p l e (headSpec wsX0_expand ({ frames := 2, cells := 0, slots := 0, locals := 43 })).room s m ([.ref h, .int p1, .int p2].toArray) below meth c H locs 0 0 (Qf (o_qs, o_ts, o_bs, o_cn)) (F0 m 12 ls [])) (qs : Nat → Int32) (ts : Nat → Int32) (bs : Nat → Int32) (cn : Int32) (x3 : Int32) (x4 : Int32) (x5 : Int32) (H : Heap) (locs : List Loc) (ls : Array Slot), fX0_expand_B12 k12  qs ts bs cn x3 x4 x5 = some (o_qs, o_ts, o_bs, o_cn) → va_P G vwCl [(h, .inr (0, [.ref a1, .ref a2, .ref a3, .int cn])), (a1, .inl (cI, 32, .inl qs)), (a2, .inl (cI, 33, .inl ts)), (a3, .inl (cI, 33, .inl bs))] H → va_D A [(h, .inr (0, [.ref a1, .ref a2, .ref a3, .int cn])), (a1, .inl (cI, 32, .inl qs)), (a2, .inl (cI, 33, .inl ts)), (a3, .inl (cI, 33, .inl bs))] → va_S A s.heap H locs → lv_has ls 8 [(0, .ref h), (3, .int x3), (4, .int x4), (5, .int x5)] → W p l e (headSpec wsX0_expand ({ frames := 2, cells := 0, slots := 0, locals := 43 })).room s m ([.ref h, .int p1, .int p2].toArray) below meth c H locs 0 0 (Qf (o_qs, o_ts, o_bs, o_cn)) (F0 m 12 ls []) := by
    intro k12 hk12  qs ts bs cn x3 x4 x5 H locs ls hf hP hD hS hl
    unfold fX0_expand_B12 at hf
    refine lv_iload hx hb dX0_expand_12 (lv_at hl 3 rfl) ?_
    refine lv_bipush (v := 32) hx hb dX0_expand_14 (by decide) ?_
    refine lv_icmp_ge (tgt := 58) hx hb dX0_expand_16 (by decide) (fun c16 => ?_) (fun c16 => ?_)
    · have hf := it_t c16 hf
      refine qf_s (Qf := Qf) hf ?_
      have hP9 : va_P G vwCl [(h, .inr (0, [.ref a1, .ref a2, .ref a3, .int cn])), (a1, .inl (cI, 32, .inl qs)), (a2, .inl (cI, 33, .inl ts)), (a3, .inl (cI, 33, .inl bs))] _ := hP.sub [0, 1, 2, 3] rfl
      have hD9 : va_D A [(h, .inr (0, [.ref a1, .ref a2, .ref a3, .int cn])), (a1, .inl (cI, 32, .inl qs)), (a2, .inl (cI, 33, .inl ts)), (a3, .inl (cI, 33, .inl bs))] := hD.sub [0, 1, 2, 3] (by decide) rfl
      rw [hQf]
      exact W.vret hx hb hr (fun t ht hW => ⟨⟨(), rfl, trivial, by rw [ht]; exact hP9, hD9⟩, hS.F ht⟩) hS.2.2 dX0_expand_58
    · have hf := it_f c16 hf
      refine lv_iload hx hb dX0_expand_19 (lv_at hl 2 rfl) ?_
      refine lv_if_le (tgt := 58) hx hb dX0_expand_21 (by decide) (fun c21 => ?_) (fun c21 => ?_)
      · have hf := it_t c21 hf
        refine qf_s (Qf := Qf) hf ?_
        have hP9 : va_P G vwCl [(h, .inr (0, [.ref a1, .ref a2, .ref a3, .int cn])), (a1, .inl (cI, 32, .inl qs)), (a2, .inl (cI, 33, .inl ts)), (a3, .inl (cI, 33, .inl bs))] _ := hP.sub [0, 1, 2, 3] rfl
        have hD9 : va_D A [(h, .inr (0, [.ref a1, .ref a2, .ref a3, .int cn])), (a1, .inl (cI, 32, .inl qs)), (a2, .inl (cI, 33, .inl ts)), (a3, .inl (cI, 33, .inl bs))] := hD.sub [0, 1, 2, 3] (by decide) rfl
        rw [hQf]
        exact W.vret hx hb hr (fun t ht hW => ⟨⟨(), rfl, trivial, by rw [ht]; exact hP9, hD9⟩, hS.F ht⟩) hS.2.2 dX0_expand_58
      · have hf := it_f c21 hf
        refine lv_iload_n hx hb dX0_expand_24 rfl (lv_at hl 1 rfl) ?_
        refine lv_iload hx hb dX0_expand_25 (lv_at hl 2 rfl) ?_
        obtain ⟨hz27, hf⟩ := ckZ_s hf
        refine lv_idiv hx hb dX0_expand_27 hz27 ?_
        refine lv_topi (fun v28 ev28 => ?_)
        have hf := nm_s ev28 hf
        refine lv_istore (lv' := [(6, .int v28), (0, .ref h), (3, .int x3), (4, .int x4), (5, .int x5)]) hx hb dX0_expand_28 hl (by decide) rfl (fun ls hl => ?_)
        refine lv_iload_n hx hb dX0_expand_30 rfl (lv_at hl 2 rfl) ?_
        refine lv_iload hx hb dX0_expand_31 (lv_at hl 0 rfl) ?_
        refine lv_iload hx hb dX0_expand_33 (lv_at hl 3 rfl) ?_
        refine lv_imul hx hb dX0_expand_35 ?_
        refine lv_isub hx hb dX0_expand_36 ?_
        refine lv_topi (fun v37 ev37 => ?_)
        have hf := nm_s ev37 hf
        refine lv_istore (lv' := [(7, .int v37), (6, .int v28), (0, .ref h), (3, .int x3), (4, .int x4), (5, .int x5)]) hx hb dX0_expand_37 hl (by decide) rfl (fun ls hl => ?_)
        refine lv_aload_n hx hb dX0_expand_39 rfl (lv_at hl 2 rfl) ?_
        refine lv_iload hx hb dX0_expand_40 (lv_at hl 1 rfl) ?_
        obtain ⟨qs_42, ts_42, bs_42, cn_42, hv42, hf⟩ := bd4_s hf
        refine mcVv (As := [.int v28]) (rest := []) (wr := []) (wc := [(h, .inr (0, [.ref a1, .ref a2, .ref a3, .int cn])), (a1, .inl (cI, 32, .inl qs)), (a2, .inl (cI, 33, .inl ts)), (a3, .inl (cI, 33, .inl bs))]) ⟨hx, hb, hml, hown, hts⟩ (zX0_addTerm l G cI _ h a1 a2 a3 qs ts bs cn v28 hv42) (cwV 1 hts gX0_expand_X0_addTerm rfl rfl rfl (by decide +kernel) ⟨Nat.le_of_ble_eq_true rfl, Nat.le_of_ble_eq_true rfl⟩) hK hP hD [0, 1, 2, 3] [] rfl rfl rfl (by decide) (by decide) (by decide) rfl rfl rfl hl.1 rfl (Nat.le_of_ble_eq_true rfl) dX0_expand_42 ⟨Nat.le_of_ble_eq_true rfl, Nat.le_of_ble_eq_true rfl⟩ hS hA (fun H locs hP hD hz42 hS => ?_)
        have hP : va_P G vwCl [(h, .inr (0, [.ref a1, .ref a2, .ref a3, .int cn_42])), (a1, .inl (cI, 32, .inl qs_42)), (a2, .inl (cI, 33, .inl ts_42)), (a3, .inl (cI, 33, .inl bs_42))] H := hP
        have hD : va_D A [(h, .inr (0, [.ref a1, .ref a2, .ref a3, .int cn_42])), (a1, .inl (cI, 32, .inl qs_42)), (a2, .inl (cI, 33, .inl ts_42)), (a3, .inl (cI, 33, .inl bs_42))] := hD
        refine lv_iload hx hb dX0_expand_45 (lv_at hl 4 rfl) ?_
        refine lv_istore_n (lv' := [(3, .int x4), (7, .int v37), (6, .int v28), (0, .ref h), (4, .int x4), (5, .int x5)]) hx hb dX0_expand_47 rfl hl (by decide) rfl (fun ls hl => ?_)
        refine lv_iload hx hb dX0_expand_48 (lv_at hl 1 rfl) ?_
        refine lv_istore (lv' := [(4, .int v37), (3, .int x4), (7, .int v37), (6, .int v28), (0, .ref h), (5, .int x5)]) hx hb dX0_expand_50 hl (by decide) rfl (fun ls hl => ?_)
        obtain ⟨v52, ev52⟩ : ∃ y : Int32, y = x5 + 1 := ⟨_, rfl⟩
        have hf := nm_s ev52 hf
        refine lv_iinc (v := v52) (lv' := [(5, .int v52), (4, .int v37), (3, .int x4), (7, .int v37), (6, .int v28), (0, .ref h)]) hx hb dX0_expand_52 hl (k := 5) rfl (by rw [ev52]; rfl) (by decide) rfl (fun ls hl => ?_)
        refine lv_goto (tgt := 12) hx hb dX0_expand_55 (by decide) ?_
        exact hk12  qs_42 ts_42 bs_42 cn_42 x4 v37 v52 _ _ _ hf hP hD hS (lv_sub hl [5, 2, 1, 0] rfl)
  have L12 : ∀ (fu : Nat) (qs : Nat → Int32) (ts : Nat → Int32) (bs : Nat → Int32) (cn : Int32) (x3 : Int32) (x4 : Int32) (x5 : Int32) (H : Heap) (locs : List Loc) (ls : Array Slot), fX0_expand_L12   fu qs ts bs cn x3 x4 x5 = some (o_qs, o_ts, o_bs, o_cn) → va_P G vwCl [(h, .inr (0, [.ref a1, .ref a2, .ref a3, .int cn])), (a1, .inl (cI, 32, .inl qs)), (a2, .inl (cI, 33, .inl ts)), (a3, .inl (cI, 33, .inl bs))] H → va_D A [(h, .inr (0, [.ref a1, .ref a2, .ref a3, .int cn])), (a1, .inl (cI, 32, .inl qs)), (a2, .inl (cI, 33, .inl ts)), (a3, .inl (cI, 33, .inl bs))] → va_S A s.heap H locs → lv_has ls 8 [(0, .ref h), (3, .int x3), (4, .int x4), (5, .int x5)] → W p l e (headSpec wsX0_expand ({ frames := 2, cells := 0, slots := 0, locals := 43 })).room s m ([.ref h, .int p1, .int p2].toArray) below meth c H locs 0 0 (Qf (o_qs, o_ts, o_bs, o_cn)) (F0 m 12 ls []) := by
    intro  fu
    induction fu with
    | zero => intro qs ts bs cn x3 x4 x5 H locs ls hf; cases hf
    | succ fu ih => intro qs ts bs cn x3 x4 x5 H locs ls hf hP hD hS hl; exact B12 (fX0_expand_L12   fu) ih qs ts bs cn x3 x4 x5 _ _ _ hf hP hD hS hl
  have hl := lv_entry ([.ref h, .int p1, .int p2]) (n := 8) (Nat.le_of_ble_eq_true rfl)
  rw [lg_entry_eq]
  generalize (lg_sl ([.ref h, .int p1, .int p2]) ++ List.replicate (8 - (lg_sl ([.ref h, .int p1, .int p2])).length) Slot.unset).toArray = ls at hl ⊢
  have hl : lv_has ls 8 [(0, .ref h), (1, .int p1), (2, .int p2)] := hl
  unfold fX0_expand at hf
  refine lv_aload_n hx hb dX0_expand_0 rfl (lv_at hl 0 rfl) ?_
  obtain ⟨ts_1, bs_1, cn_1, hv1, hf⟩ := bd3_s hf
  refine mcVv (As := []) (rest := []) (wr := []) (wc := [(h, .inr (0, [.ref a1, .ref a2, .ref a3, .int cn])), (a1, .inl (cI, 32, .inl qs)), (a2, .inl (cI, 33, .inl ts)), (a3, .inl (cI, 33, .inl bs))]) ⟨hx, hb, hml, hown, hts⟩ (zX0_startAnew l G cI _ h a1 a2 a3 qs ts bs cn  hv1) (cwV 0 hts gX0_expand_X0_startAnew rfl rfl rfl (by decide +kernel) ⟨Nat.le_of_ble_eq_true rfl, Nat.le_of_ble_eq_true rfl⟩) hK hP hD [0, 1, 2, 3] [] rfl rfl rfl (by decide) (by decide) (by decide) rfl rfl rfl hl.1 rfl (Nat.le_of_ble_eq_true rfl) dX0_expand_1 ⟨Nat.le_of_ble_eq_true rfl, Nat.le_of_ble_eq_true rfl⟩ hS hA (fun H locs hP hD hz1 hS => ?_)
  have hP : va_P G vwCl [(h, .inr (0, [.ref a1, .ref a2, .ref a3, .int cn_1])), (a1, .inl (cI, 32, .inl qs)), (a2, .inl (cI, 33, .inl ts_1)), (a3, .inl (cI, 33, .inl bs_1))] H := hP
  have hD : va_D A [(h, .inr (0, [.ref a1, .ref a2, .ref a3, .int cn_1])), (a1, .inl (cI, 32, .inl qs)), (a2, .inl (cI, 33, .inl ts_1)), (a3, .inl (cI, 33, .inl bs_1))] := hD
  refine lv_iload_n hx hb dX0_expand_4 rfl (lv_at hl 1 rfl) ?_
  refine lv_istore_n (lv' := [(3, .int p1), (0, .ref h), (1, .int p1), (2, .int p2)]) hx hb dX0_expand_5 rfl hl (by decide) rfl (fun ls hl => ?_)
  refine lv_iload_n hx hb dX0_expand_6 rfl (lv_at hl 3 rfl) ?_
  refine lv_istore (lv' := [(4, .int p2), (3, .int p1), (0, .ref h), (1, .int p1), (2, .int p2)]) hx hb dX0_expand_7 hl (by decide) rfl (fun ls hl => ?_)
  refine lv_iconst (v := 0) hx hb dX0_expand_9 (by decide) ?_
  refine lv_istore (lv' := [(5, .int 0), (4, .int p2), (3, .int p1), (0, .ref h), (1, .int p1), (2, .int p2)]) hx hb dX0_expand_10 hl (by decide) rfl (fun ls hl => ?_)
  exact L12  FU  qs ts_1 bs_1 cn_1 p1 p2 0 _ _ _ hf hP hD hS (lv_sub hl [3, 2, 1, 0] rfl)

def fX3_isWithin (p0 : Int32) (p1 : Int32) (p2 : Int32) : Option (Int32) :=
  if p0 < p1 then
    some 0
  else
    if p2 < p0 then
      some 0
    else
      some 1
set_option maxHeartbeats 4000000 in
set_option maxRecDepth 100000 in
theorem zX3_isWithin (l : Launch) (G : va_G) (cI : ClassId) (sz : Nat) (p0 : Int32) (p1 : Int32) (p2 : Int32) {rv : Int32} (hf : fX3_isWithin p0 p1 p2 = some rv) : mRi l yX3_isWithin wsX3_isWithin ({ frames := 0, cells := 0, slots := 0, locals := 0 }) [.int p0, .int p1, .int p2] G cI [] sz rv := by
  refine Met.ofW (cc := cX3_isWithin) (maxL := 3) (ret := (some .boolean)) (by decide) rfl ?_
  intro p e s m args below meth c s₁ B hml hv
  obtain ⟨rfl, hsz, hP, hK⟩ := hv
  have hx := B.exec
  have hb := B.bytes
  have hr := B.returns
  have hts := atoms_spec (ws := wsX3_isWithin) B.pre
  have hown : s.vm.findClass RX3 = some m.cls := findClass_of_methodNamed B.named
  have hlocks := B.notSynchronized
  subst hsz
  generalize hAe : va_A [] s.heap.size = A
  have hA : ∀ q : Nat, s.heap.size ≤ q → A q := fun q h => by rw [← hAe]; exact Or.inr h
  have hS : va_S A s.heap s.heap [] := va_S.rf
  obtain ⟨Qf, hQf⟩ : ∃ f : Int32 → State → Prop, f = fun z => MQ below (va_Qi (fun (r : Int32) (_ : Unit) => r = z) (fun _ _ => True) A) ([.int p0, .int p1, .int p2].toArray) s 0 0 A := ⟨_, rfl⟩
  suffices hgo : W p l e (headSpec wsX3_isWithin ({ frames := 0, cells := 0, slots := 0, locals := 0 })).room s m ([.int p0, .int p1, .int p2].toArray) below meth c s.heap [] 0 0 (Qf rv) (entryFrame m ([.int p0, .int p1, .int p2].toArray) 3) by rw [hQf] at hgo; exact hgo
  have hl := lv_entry ([.int p0, .int p1, .int p2]) (n := 3) (Nat.le_of_ble_eq_true rfl)
  rw [lg_entry_eq]
  generalize (lg_sl ([.int p0, .int p1, .int p2]) ++ List.replicate (3 - (lg_sl ([.int p0, .int p1, .int p2])).length) Slot.unset).toArray = ls at hl ⊢
  have hl : lv_has ls 3 [(0, .int p0), (1, .int p1), (2, .int p2)] := hl
  unfold fX3_isWithin at hf
  refine lv_iload_n hx hb dX3_isWithin_0 rfl (lv_at hl 0 rfl) ?_
  refine lv_iload_n hx hb dX3_isWithin_1 rfl (lv_at hl 1 rfl) ?_
  refine lv_icmp_lt (tgt := 14) hx hb dX3_isWithin_2 (by decide) (fun c2 => ?_) (fun c2 => ?_)
  · have hf := it_t c2 hf
    refine lv_iconst (v := 0) hx hb dX3_isWithin_14 (by decide) ?_
    refine qf_s (Qf := Qf) hf ?_
    rw [hQf]
    exact W.zret hx hb hr (by decide) (fun t ht hW => ⟨⟨_, (), rfl, rfl, trivial⟩, hS.F ht⟩) hS.2.2 dX3_isWithin_15
  · have hf := it_f c2 hf
    refine lv_iload_n hx hb dX3_isWithin_5 rfl (lv_at hl 0 rfl) ?_
    refine lv_iload_n hx hb dX3_isWithin_6 rfl (lv_at hl 2 rfl) ?_
    refine lv_icmp_gt (tgt := 14) hx hb dX3_isWithin_7 (by decide) (fun c7 => ?_) (fun c7 => ?_)
    · have hf := it_t c7 hf
      refine lv_iconst (v := 0) hx hb dX3_isWithin_14 (by decide) ?_
      refine qf_s (Qf := Qf) hf ?_
      rw [hQf]
      exact W.zret hx hb hr (by decide) (fun t ht hW => ⟨⟨_, (), rfl, rfl, trivial⟩, hS.F ht⟩) hS.2.2 dX3_isWithin_15
    · have hf := it_f c7 hf
      refine lv_iconst (v := 1) hx hb dX3_isWithin_10 (by decide) ?_
      refine lv_goto (tgt := 15) hx hb dX3_isWithin_11 (by decide) ?_
      refine qf_s (Qf := Qf) hf ?_
      rw [hQf]
      exact W.zret hx hb hr (by decide) (fun t ht hW => ⟨⟨_, (), rfl, rfl, trivial⟩, hS.F ht⟩) hS.2.2 dX3_isWithin_15
def fX3_topOrBottom (p0 : Int32) (p1 : Int32) (p2 : Int32) : Option (Int32) :=
  if p0 = 0 then
    some p1
  else
    if p0 = 1 then
      some p2
    else
      some (-1)
set_option maxHeartbeats 4000000 in
set_option maxRecDepth 100000 in
theorem zX3_topOrBottom (l : Launch) (G : va_G) (cI : ClassId) (sz : Nat) (p0 : Int32) (p1 : Int32) (p2 : Int32) {rv : Int32} (hf : fX3_topOrBottom p0 p1 p2 = some rv) : mRi l yX3_topOrBottom wsX3_topOrBottom ({ frames := 0, cells := 0, slots := 0, locals := 0 }) [.int p0, .int p1, .int p2] G cI [] sz rv := by
  refine Met.ofW (cc := cX3_topOrBottom) (maxL := 3) (ret := (some .int)) (by decide) rfl ?_
  intro p e s m args below meth c s₁ B hml hv
  obtain ⟨rfl, hsz, hP, hK⟩ := hv
  have hx := B.exec
  have hb := B.bytes
  have hr := B.returns
  have hts := atoms_spec (ws := wsX3_topOrBottom) B.pre
  have hown : s.vm.findClass RX3 = some m.cls := findClass_of_methodNamed B.named
  have hlocks := B.notSynchronized
  subst hsz
  generalize hAe : va_A [] s.heap.size = A
  have hA : ∀ q : Nat, s.heap.size ≤ q → A q := fun q h => by rw [← hAe]; exact Or.inr h
  have hS : va_S A s.heap s.heap [] := va_S.rf
  obtain ⟨Qf, hQf⟩ : ∃ f : Int32 → State → Prop, f = fun z => MQ below (va_Qi (fun (r : Int32) (_ : Unit) => r = z) (fun _ _ => True) A) ([.int p0, .int p1, .int p2].toArray) s 0 0 A := ⟨_, rfl⟩
  suffices hgo : W p l e (headSpec wsX3_topOrBottom ({ frames := 0, cells := 0, slots := 0, locals := 0 })).room s m ([.int p0, .int p1, .int p2].toArray) below meth c s.heap [] 0 0 (Qf rv) (entryFrame m ([.int p0, .int p1, .int p2].toArray) 3) by rw [hQf] at hgo; exact hgo
  have hl := lv_entry ([.int p0, .int p1, .int p2]) (n := 3) (Nat.le_of_ble_eq_true rfl)
  rw [lg_entry_eq]
  generalize (lg_sl ([.int p0, .int p1, .int p2]) ++ List.replicate (3 - (lg_sl ([.int p0, .int p1, .int p2])).length) Slot.unset).toArray = ls at hl ⊢
  have hl : lv_has ls 3 [(0, .int p0), (1, .int p1), (2, .int p2)] := hl
  unfold fX3_topOrBottom at hf
  refine lv_iload_n hx hb dX3_topOrBottom_0 rfl (lv_at hl 0 rfl) ?_
  refine lv_if_ne (tgt := 6) hx hb dX3_topOrBottom_1 (by decide) (fun c1 => ?_) (fun c1 => ?_)
  · have hf := it_f c1 hf
    refine lv_iload_n hx hb dX3_topOrBottom_6 rfl (lv_at hl 0 rfl) ?_
    refine lv_iconst (v := 1) hx hb dX3_topOrBottom_7 (by decide) ?_
    refine lv_icmp_ne (tgt := 15) hx hb dX3_topOrBottom_8 (by decide) (fun c8 => ?_) (fun c8 => ?_)
    · have hf := it_f c8 hf
      refine lv_iconst (v := (-1)) hx hb dX3_topOrBottom_15 (by decide) ?_
      refine qf_s (Qf := Qf) hf ?_
      rw [hQf]
      exact W.iret hx hb hr (fun t ht hW => ⟨⟨_, (), rfl, rfl, trivial⟩, hS.F ht⟩) hS.2.2 dX3_topOrBottom_16
    · have hf := it_t c8 hf
      refine lv_iload_n hx hb dX3_topOrBottom_11 rfl (lv_at hl 2 rfl) ?_
      refine lv_goto (tgt := 16) hx hb dX3_topOrBottom_12 (by decide) ?_
      refine qf_s (Qf := Qf) hf ?_
      rw [hQf]
      exact W.iret hx hb hr (fun t ht hW => ⟨⟨_, (), rfl, rfl, trivial⟩, hS.F ht⟩) hS.2.2 dX3_topOrBottom_16
  · have hf := it_t c1 hf
    refine lv_iload_n hx hb dX3_topOrBottom_4 rfl (lv_at hl 1 rfl) ?_
    refine qf_s (Qf := Qf) hf ?_
    rw [hQf]
    exact W.iret hx hb hr (fun t ht hW => ⟨⟨_, (), rfl, rfl, trivial⟩, hS.F ht⟩) hS.2.2 dX3_topOrBottom_5
def fX3_isTerm (cn : Int32) (p1 : Int32) : Option (Int32) :=
  if p1 < 0 then
    some 0
  else
    if cn ≤ p1 then
      some 0
    else
      some 1
set_option maxHeartbeats 4000000 in
set_option maxRecDepth 100000 in
theorem zX3_isTerm (l : Launch) (G : va_G) (cI : ClassId) (sz : Nat) (h e0 a1 a2 a3 r0 a4 : Nat) (qs : Nat → Int32) (ts : Nat → Int32) (bs : Nat → Int32) (cn : Int32) (mo : Nat → Int32) (p1 : Int32) {rv : Int32} (hf : fX3_isTerm cn p1 = some rv) : mRi l yX3_isTerm wsX3_isTerm ({ frames := 0, cells := 0, slots := 0, locals := 0 }) [.ref h, .int p1] G cI [(h, .inr (3, [.ref e0, .ref r0])), (e0, .inr (0, [.ref a1, .ref a2, .ref a3, .int cn])), (a1, .inl (cI, 32, .inl qs)), (a2, .inl (cI, 33, .inl ts)), (a3, .inl (cI, 33, .inl bs)), (r0, .inr (2, [.ref a4])), (a4, .inl (cI, 201, .inl mo))] sz rv := by
  refine Met.ofW (cc := cX3_isTerm) (maxL := 2) (ret := (some .boolean)) (by decide) rfl ?_
  intro p e s m args below meth c s₁ B hml hv
  obtain ⟨rfl, hsz, hP, hK⟩ := hv
  have hx := B.exec
  have hb := B.bytes
  have hr := B.returns
  have hts := atoms_spec (ws := wsX3_isTerm) B.pre
  have hown : s.vm.findClass RX3 = some m.cls := findClass_of_methodNamed B.named
  have hlocks := B.notSynchronized
  subst hsz
  generalize hAe : va_A [] s.heap.size = A
  have hA : ∀ q : Nat, s.heap.size ≤ q → A q := fun q h => by rw [← hAe]; exact Or.inr h
  have hS : va_S A s.heap s.heap [] := va_S.rf
  have w0 := hts (.fieldLink RX3 10 "SternDesk" "hand" "LSternDesk$Expansion;") (by decide +kernel)
  have hinX3 : ∀ w ∈ u_ws RX3 TX3 2, w ∈ wsX3_isTerm := by decide +kernel
  have w2 := hts (.fieldLink RX3 50 "SternDesk$Expansion" "count" "I") (by decide +kernel)
  have hinX0 : ∀ w ∈ u_ws RX0 TX0 4, w ∈ wsX3_isTerm := by decide +kernel
  obtain ⟨Qf, hQf⟩ : ∃ f : Int32 → State → Prop, f = fun z => MQ below (va_Qi (fun (r : Int32) (_ : Unit) => r = z) (fun _ _ => True) A) ([.ref h, .int p1].toArray) s 0 0 A := ⟨_, rfl⟩
  suffices hgo : W p l e (headSpec wsX3_isTerm ({ frames := 0, cells := 0, slots := 0, locals := 0 })).room s m ([.ref h, .int p1].toArray) below meth c s.heap [] 0 0 (Qf rv) (entryFrame m ([.ref h, .int p1].toArray) 2) by rw [hQf] at hgo; exact hgo
  have hl := lv_entry ([.ref h, .int p1]) (n := 2) (Nat.le_of_ble_eq_true rfl)
  rw [lg_entry_eq]
  generalize (lg_sl ([.ref h, .int p1]) ++ List.replicate (2 - (lg_sl ([.ref h, .int p1])).length) Slot.unset).toArray = ls at hl ⊢
  have hl : lv_has ls 2 [(0, .ref h), (1, .int p1)] := hl
  unfold fX3_isTerm at hf
  refine lv_iload_n hx hb dX3_isTerm_0 rfl (lv_at hl 1 rfl) ?_
  refine lv_if_lt (tgt := 19) hx hb dX3_isTerm_1 (by decide) (fun c1 => ?_) (fun c1 => ?_)
  · have hf := it_t c1 hf
    refine lv_iconst (v := 0) hx hb dX3_isTerm_19 (by decide) ?_
    refine qf_s (Qf := Qf) hf ?_
    rw [hQf]
    exact W.zret hx hb hr (by decide) (fun t ht hW => ⟨⟨_, (), rfl, rfl, trivial⟩, hS.F ht⟩) hS.2.2 dX3_isTerm_20
  · have hf := it_f c1 hf
    refine lv_iload_n hx hb dX3_isTerm_4 rfl (lv_at hl 1 rfl) ?_
    refine lv_aload_n hx hb dX3_isTerm_5 rfl (lv_at hl 0 rfl) ?_
    refine va_get (D := G) (ci := 3) (v := .ref e0) (C := RX3) (T := TX3) (N := 2) hx hb hts hinX3 hown hK.1 hP 0 rfl rfl 0 (by decide) w0 (fun _ h9 => h9) rfl dX3_isTerm_6 ?_
    refine va_get (D := G) (ci := 0) (v := .int cn) (C := RX0) (T := TX0) (N := 4) hx hb hts hinX0 hown hK.1 hP 1 rfl rfl 3 (by decide) w2 (fun _ h9 => h9) rfl dX3_isTerm_9 ?_
    refine lv_icmp_ge (tgt := 19) hx hb dX3_isTerm_12 (by decide) (fun c12 => ?_) (fun c12 => ?_)
    · have hf := it_t c12 hf
      refine lv_iconst (v := 0) hx hb dX3_isTerm_19 (by decide) ?_
      refine qf_s (Qf := Qf) hf ?_
      rw [hQf]
      exact W.zret hx hb hr (by decide) (fun t ht hW => ⟨⟨_, (), rfl, rfl, trivial⟩, hS.F ht⟩) hS.2.2 dX3_isTerm_20
    · have hf := it_f c12 hf
      refine lv_iconst (v := 1) hx hb dX3_isTerm_15 (by decide) ?_
      refine lv_goto (tgt := 20) hx hb dX3_isTerm_16 (by decide) ?_
      refine qf_s (Qf := Qf) hf ?_
      rw [hQf]
      exact W.zret hx hb hr (by decide) (fun t ht hW => ⟨⟨_, (), rfl, rfl, trivial⟩, hS.F ht⟩) hS.2.2 dX3_isTerm_20
def fX3_stepOn_J109 (qs : Nat → Int32) (ts : Nat → Int32) (bs : Nat → Int32) (cn : Int32) (x3 : Int32) (x4 : Int32) : Option ((Nat → Int32) × (Nat → Int32) × (Nat → Int32) × Int32) :=
  bd4 (fX0_expand qs ts bs cn x3 x4) fun qs_116 ts_116 bs_116 cn_116 =>
  some (qs_116, ts_116, bs_116, cn_116)
def fX3_stepOn_B49 (k49 : (Nat → Int32) → (Nat → Int32) → (Nat → Int32) → Int32 → Int32 → Int32 → Int32 → Int32 → Int32 → Int32 → Int32 → Option ((Nat → Int32) × (Nat → Int32) × (Nat → Int32) × Int32)) (qs : Nat → Int32) (ts : Nat → Int32) (bs : Nat → Int32) (cn : Int32) (x1 : Int32) (x2 : Int32) (x3 : Int32) (x4 : Int32) (x5 : Int32) (x6 : Int32) (x7 : Int32) : Option ((Nat → Int32) × (Nat → Int32) × (Nat → Int32) × Int32) :=
  if x2 ≤ x7 then
    fX3_stepOn_J109   qs ts bs cn x3 x4
  else
    if x5 ≤ 0 then
      fX3_stepOn_J109   qs ts bs cn x3 x4
    else
      ckZ x5 <|
      nm ((x1 + x4) / x5) fun v67 =>
      nm ((v67 * x6) - x3) fun v76 =>
      nm ((v67 * x5) - x4) fun v86 =>
      nm (x7 + 1) fun v103 =>
      k49 qs ts bs cn x1 x2 x6 x5 v86 v76 v103
def fX3_stepOn_L49 : Nat → (Nat → Int32) → (Nat → Int32) → (Nat → Int32) → Int32 → Int32 → Int32 → Int32 → Int32 → Int32 → Int32 → Int32 → Option ((Nat → Int32) × (Nat → Int32) × (Nat → Int32) × Int32)
  | 0, _, _, _, _, _, _, _, _, _, _, _ => none
  | n + 1, qs, ts, bs, cn, x1, x2, x3, x4, x5, x6, x7 => fX3_stepOn_B49 (fX3_stepOn_L49   n)  qs ts bs cn x1 x2 x3 x4 x5 x6 x7
def fX3_stepOn_J44 (qs : Nat → Int32) (ts : Nat → Int32) (bs : Nat → Int32) (cn : Int32) (x1 : Int32) (x2 : Int32) (x3 : Int32) (x4 : Int32) (x5 : Int32) (y0 : Int32) : Option ((Nat → Int32) × (Nat → Int32) × (Nat → Int32) × Int32) :=
  fX3_stepOn_L49   FU qs ts bs cn x1 x2 x3 x4 x5 y0 0
def fX3_stepOn (qs : Nat → Int32) (ts : Nat → Int32) (bs : Nat → Int32) (cn : Int32) (p1 : Int32) (p2 : Int32) : Option ((Nat → Int32) × (Nat → Int32) × (Nat → Int32) × Int32) :=
  bd1 (fX0_top ts cn) fun r4 =>
  bd1 (fX0_bottom bs cn) fun r12 =>
  bd1 (fX2_bottomBehind p1 r4 r12) fun r21 =>
  if r12 ≤ 0 then
    fX3_stepOn_J44   qs ts bs cn p1 p2 r4 r12 r21 0
  else
    ckZ r12 <|
    fX3_stepOn_J44   qs ts bs cn p1 p2 r4 r12 r21 (((r4 * r21) + 1) / r12)
set_option maxHeartbeats 4000000 in
set_option maxRecDepth 100000 in
theorem zX3_stepOn (l : Launch) (G : va_G) (cI : ClassId) (sz : Nat) (h e0 a1 a2 a3 r0 a4 : Nat) (qs : Nat → Int32) (ts : Nat → Int32) (bs : Nat → Int32) (cn : Int32) (mo : Nat → Int32) (p1 : Int32) (p2 : Int32) {o_qs : Nat → Int32} {o_ts : Nat → Int32} {o_bs : Nat → Int32} {o_cn : Int32} (hf : fX3_stepOn qs ts bs cn p1 p2 = some (o_qs, o_ts, o_bs, o_cn)) : mMv l yX3_stepOn wsX3_stepOn ({ frames := 3, cells := 0, slots := 0, locals := 70 }) [.ref h, .int p1, .int p2] G cI [(h, .inr (3, [.ref e0, .ref r0])), (e0, .inr (0, [.ref a1, .ref a2, .ref a3, .int cn])), (a1, .inl (cI, 32, .inl qs)), (a2, .inl (cI, 33, .inl ts)), (a3, .inl (cI, 33, .inl bs)), (r0, .inr (2, [.ref a4])), (a4, .inl (cI, 201, .inl mo))] sz [(h, .inr (3, [.ref e0, .ref r0])), (e0, .inr (0, [.ref a1, .ref a2, .ref a3, .int o_cn])), (a1, .inl (cI, 32, .inl o_qs)), (a2, .inl (cI, 33, .inl o_ts)), (a3, .inl (cI, 33, .inl o_bs)), (r0, .inr (2, [.ref a4])), (a4, .inl (cI, 201, .inl mo))] 0 0 := by
  refine Met.ofW (cc := cX3_stepOn) (maxL := 11) (ret := none) (by decide) rfl ?_
  intro p e s m args below meth c s₁ B hml hv
  obtain ⟨rfl, hsz, hP, hK, hD0⟩ := hv
  have hx := B.exec
  have hb := B.bytes
  have hr := B.returns
  have hts := atoms_spec (ws := wsX3_stepOn) B.pre
  have hown : s.vm.findClass RX3 = some m.cls := findClass_of_methodNamed B.named
  have hlocks := B.notSynchronized
  subst hsz
  have hD := hD0.self (sz := s.heap.size)
  generalize hAe : va_A [(h, .inr (3, [.ref e0, .ref r0])), (e0, .inr (0, [.ref a1, .ref a2, .ref a3, .int cn])), (a1, .inl (cI, 32, .inl qs)), (a2, .inl (cI, 33, .inl ts)), (a3, .inl (cI, 33, .inl bs)), (r0, .inr (2, [.ref a4])), (a4, .inl (cI, 201, .inl mo))] s.heap.size = A at hD ⊢
  have hA : ∀ q : Nat, s.heap.size ≤ q → A q := fun q h => by rw [← hAe]; exact Or.inr h
  have hS : va_S A s.heap s.heap [] := va_S.rf
  have w0 := hts (.fieldLink RX3 10 "SternDesk" "hand" "LSternDesk$Expansion;") (by decide +kernel)
  have hinX3 : ∀ w ∈ u_ws RX3 TX3 2, w ∈ wsX3_stepOn := by decide +kernel
  obtain ⟨Qf, hQf⟩ : ∃ f : ((Nat → Int32) × (Nat → Int32) × (Nat → Int32) × Int32) → State → Prop, f = fun z => MQ below (va_Qv (fun (_ : Unit) => True) (fun _ t => va_P G vwCl [(h, .inr (3, [.ref e0, .ref r0])), (e0, .inr (0, [.ref a1, .ref a2, .ref a3, .int z.2.2.2])), (a1, .inl (cI, 32, .inl z.1)), (a2, .inl (cI, 33, .inl z.2.1)), (a3, .inl (cI, 33, .inl z.2.2.1)), (r0, .inr (2, [.ref a4])), (a4, .inl (cI, 201, .inl mo))] t.heap ∧ va_D A [(h, .inr (3, [.ref e0, .ref r0])), (e0, .inr (0, [.ref a1, .ref a2, .ref a3, .int z.2.2.2])), (a1, .inl (cI, 32, .inl z.1)), (a2, .inl (cI, 33, .inl z.2.1)), (a3, .inl (cI, 33, .inl z.2.2.1)), (r0, .inr (2, [.ref a4])), (a4, .inl (cI, 201, .inl mo))]) A) ([.ref h, .int p1, .int p2].toArray) s 0 0 A := ⟨_, rfl⟩
  suffices hgo : W p l e (headSpec wsX3_stepOn ({ frames := 3, cells := 0, slots := 0, locals := 70 })).room s m ([.ref h, .int p1, .int p2].toArray) below meth c s.heap [] 0 0 (Qf (o_qs, o_ts, o_bs, o_cn)) (entryFrame m ([.ref h, .int p1, .int p2].toArray) 11) by rw [hQf] at hgo; exact hgo
  have J109 : ∀ (qs : Nat → Int32) (ts : Nat → Int32) (bs : Nat → Int32) (cn : Int32) (x3 : Int32) (x4 : Int32) (H : Heap) (locs : List Loc) (ls : Array Slot), fX3_stepOn_J109   qs ts bs cn x3 x4 = some (o_qs, o_ts, o_bs, o_cn) → va_P G vwCl [(h, .inr (3, [.ref e0, .ref r0])), (e0, .inr (0, [.ref a1, .ref a2, .ref a3, .int cn])), (a1, .inl (cI, 32, .inl qs)), (a2, .inl (cI, 33, .inl ts)), (a3, .inl (cI, 33, .inl bs)), (r0, .inr (2, [.ref a4])), (a4, .inl (cI, 201, .inl mo))] H → va_D A [(h, .inr (3, [.ref e0, .ref r0])), (e0, .inr (0, [.ref a1, .ref a2, .ref a3, .int cn])), (a1, .inl (cI, 32, .inl qs)), (a2, .inl (cI, 33, .inl ts)), (a3, .inl (cI, 33, .inl bs)), (r0, .inr (2, [.ref a4])), (a4, .inl (cI, 201, .inl mo))] → va_S A s.heap H locs → lv_has ls 11 [(0, .ref h), (3, .int x3), (4, .int x4)] → W p l e (headSpec wsX3_stepOn ({ frames := 3, cells := 0, slots := 0, locals := 70 })).room s m ([.ref h, .int p1, .int p2].toArray) below meth c H locs 0 0 (Qf (o_qs, o_ts, o_bs, o_cn)) (F0 m 109 ls []) := by
    intro   qs ts bs cn x3 x4 H locs ls hf hP hD hS hl
    unfold fX3_stepOn_J109 at hf
    refine lv_aload_n hx hb dX3_stepOn_109 rfl (lv_at hl 0 rfl) ?_
    refine va_get (D := G) (ci := 3) (v := .ref e0) (C := RX3) (T := TX3) (N := 2) hx hb hts hinX3 hown hK.1 hP 0 rfl rfl 0 (by decide) w0 (fun _ h9 => h9) rfl dX3_stepOn_110 ?_
    refine lv_iload_n hx hb dX3_stepOn_113 rfl (lv_at hl 1 rfl) ?_
    refine lv_iload hx hb dX3_stepOn_114 (lv_at hl 2 rfl) ?_
    obtain ⟨qs_116, ts_116, bs_116, cn_116, hv116, hf⟩ := bd4_s hf
    refine mcVv (As := [.int x3, .int x4]) (rest := []) (wr := [(h, .inr (3, [.ref e0, .ref r0])), (r0, .inr (2, [.ref a4])), (a4, .inl (cI, 201, .inl mo))]) (wc := [(e0, .inr (0, [.ref a1, .ref a2, .ref a3, .int cn])), (a1, .inl (cI, 32, .inl qs)), (a2, .inl (cI, 33, .inl ts)), (a3, .inl (cI, 33, .inl bs))]) ⟨hx, hb, hml, hown, hts⟩ (zX0_expand l G cI _ e0 a1 a2 a3 qs ts bs cn x3 x4 hv116) (cwV 2 hts gX3_stepOn_X0_expand rfl rfl rfl (by decide +kernel) ⟨Nat.le_of_ble_eq_true rfl, Nat.le_of_ble_eq_true rfl⟩) hK hP hD [1, 2, 3, 4] [0, 5, 6] rfl rfl rfl (by decide) (by decide) (by decide) rfl rfl rfl hl.1 rfl (Nat.le_of_ble_eq_true rfl) dX3_stepOn_116 ⟨Nat.le_of_ble_eq_true rfl, Nat.le_of_ble_eq_true rfl⟩ hS hA (fun H locs hP hD hz116 hS => ?_)
    have hP : va_P G vwCl [(h, .inr (3, [.ref e0, .ref r0])), (e0, .inr (0, [.ref a1, .ref a2, .ref a3, .int cn_116])), (a1, .inl (cI, 32, .inl qs_116)), (a2, .inl (cI, 33, .inl ts_116)), (a3, .inl (cI, 33, .inl bs_116)), (r0, .inr (2, [.ref a4])), (a4, .inl (cI, 201, .inl mo))] H := hP.sub [0, 3, 4, 5, 6, 1, 2] rfl
    have hD : va_D A [(h, .inr (3, [.ref e0, .ref r0])), (e0, .inr (0, [.ref a1, .ref a2, .ref a3, .int cn_116])), (a1, .inl (cI, 32, .inl qs_116)), (a2, .inl (cI, 33, .inl ts_116)), (a3, .inl (cI, 33, .inl bs_116)), (r0, .inr (2, [.ref a4])), (a4, .inl (cI, 201, .inl mo))] := hD.sub [0, 3, 4, 5, 6, 1, 2] (by decide) rfl
    refine qf_s (Qf := Qf) hf ?_
    have hP9 : va_P G vwCl [(h, .inr (3, [.ref e0, .ref r0])), (e0, .inr (0, [.ref a1, .ref a2, .ref a3, .int cn_116])), (a1, .inl (cI, 32, .inl qs_116)), (a2, .inl (cI, 33, .inl ts_116)), (a3, .inl (cI, 33, .inl bs_116)), (r0, .inr (2, [.ref a4])), (a4, .inl (cI, 201, .inl mo))] _ := hP.sub [0, 1, 2, 3, 4, 5, 6] rfl
    have hD9 : va_D A [(h, .inr (3, [.ref e0, .ref r0])), (e0, .inr (0, [.ref a1, .ref a2, .ref a3, .int cn_116])), (a1, .inl (cI, 32, .inl qs_116)), (a2, .inl (cI, 33, .inl ts_116)), (a3, .inl (cI, 33, .inl bs_116)), (r0, .inr (2, [.ref a4])), (a4, .inl (cI, 201, .inl mo))] := hD.sub [0, 1, 2, 3, 4, 5, 6] (by decide) rfl
    rw [hQf]
    exact W.vret hx hb hr (fun t ht hW => ⟨⟨(), rfl, trivial, by rw [ht]; exact hP9, hD9⟩, hS.F ht⟩) hS.2.2 dX3_stepOn_119
  have B49 : ∀ (k49 : (Nat → Int32) → (Nat → Int32) → (Nat → Int32) → Int32 → Int32 → Int32 → Int32 → Int32 → Int32 → Int32 → Int32 → Option ((Nat → Int32) × (Nat → Int32) × (Nat → Int32) × Int32)) (hk49 : ∀ (qs : Nat → Int32) (ts : Nat → Int32) (bs : Nat → Int32) (cn : Int32) (x1 : Int32) (x2 : Int32) (x3 : Int32) (x4 : Int32) (x5 : Int32) (x6 : Int32) (x7 : Int32) (H : Heap) (locs : List Loc) (ls : Array Slot), k49 qs ts bs cn x1 x2 x3 x4 x5 x6 x7 = some (o_qs, o_ts, o_bs, o_cn) → va_P G vwCl [(h, .inr (3, [.ref e0, .ref r0])), (e0, .inr (0, [.ref a1, .ref a2, .ref a3, .int cn])), (a1, .inl (cI, 32, .inl qs)), (a2, .inl (cI, 33, .inl ts)), (a3, .inl (cI, 33, .inl bs)), (r0, .inr (2, [.ref a4])), (a4, .inl (cI, 201, .inl mo))] H → va_D A [(h, .inr (3, [.ref e0, .ref r0])), (e0, .inr (0, [.ref a1, .ref a2, .ref a3, .int cn])), (a1, .inl (cI, 32, .inl qs)), (a2, .inl (cI, 33, .inl ts)), (a3, .inl (cI, 33, .inl bs)), (r0, .inr (2, [.ref a4])), (a4, .inl (cI, 201, .inl mo))] → va_S A s.heap H locs → lv_has ls 11 [(0, .ref h), (1, .int x1), (2, .int x2), (3, .int x3), (4, .int x4), (5, .int x5), (6, .int x6), (7, .int x7)] → W p l e (headSpec wsX3_stepOn ({ frames := 3, cells := 0, slots := 0, locals := 70 })).room s m ([.ref h, .int p1, .int p2].toArray) below meth c H locs 0 0 (Qf (o_qs, o_ts, o_bs, o_cn)) (F0 m 49 ls [])) (qs : Nat → Int32) (ts : Nat → Int32) (bs : Nat → Int32) (cn : Int32) (x1 : Int32) (x2 : Int32) (x3 : Int32) (x4 : Int32) (x5 : Int32) (x6 : Int32) (x7 : Int32) (H : Heap) (locs : List Loc) (ls : Array Slot), fX3_stepOn_B49 k49  qs ts bs cn x1 x2 x3 x4 x5 x6 x7 = some (o_qs, o_ts, o_bs, o_cn) → va_P G vwCl [(h, .inr (3, [.ref e0, .ref r0])), (e0, .inr (0, [.ref a1, .ref a2, .ref a3, .int cn])), (a1, .inl (cI, 32, .inl qs)), (a2, .inl (cI, 33, .inl ts)), (a3, .inl (cI, 33, .inl bs)), (r0, .inr (2, [.ref a4])), (a4, .inl (cI, 201, .inl mo))] H → va_D A [(h, .inr (3, [.ref e0, .ref r0])), (e0, .inr (0, [.ref a1, .ref a2, .ref a3, .int cn])), (a1, .inl (cI, 32, .inl qs)), (a2, .inl (cI, 33, .inl ts)), (a3, .inl (cI, 33, .inl bs)), (r0, .inr (2, [.ref a4])), (a4, .inl (cI, 201, .inl mo))] → va_S A s.heap H locs → lv_has ls 11 [(0, .ref h), (1, .int x1), (2, .int x2), (3, .int x3), (4, .int x4), (5, .int x5), (6, .int x6), (7, .int x7)] → W p l e (headSpec wsX3_stepOn ({ frames := 3, cells := 0, slots := 0, locals := 70 })).room s m ([.ref h, .int p1, .int p2].toArray) below meth c H locs 0 0 (Qf (o_qs, o_ts, o_bs, o_cn)) (F0 m 49 ls []) := by
    intro k49 hk49  qs ts bs cn x1 x2 x3 x4 x5 x6 x7 H locs ls hf hP hD hS hl
    unfold fX3_stepOn_B49 at hf
    refine lv_iload hx hb dX3_stepOn_49 (lv_at hl 7 rfl) ?_
    refine lv_iload_n hx hb dX3_stepOn_51 rfl (lv_at hl 2 rfl) ?_
    refine lv_icmp_ge (tgt := 109) hx hb dX3_stepOn_52 (by decide) (fun c52 => ?_) (fun c52 => ?_)
    · have hf := it_t c52 hf
      exact J109   qs ts bs cn x3 x4 _ _ _ hf hP hD hS (lv_sub hl [0, 3, 4] rfl)
    · have hf := it_f c52 hf
      refine lv_iload hx hb dX3_stepOn_55 (lv_at hl 5 rfl) ?_
      refine lv_if_le (tgt := 109) hx hb dX3_stepOn_57 (by decide) (fun c57 => ?_) (fun c57 => ?_)
      · have hf := it_t c57 hf
        exact J109   qs ts bs cn x3 x4 _ _ _ hf hP hD hS (lv_sub hl [0, 3, 4] rfl)
      · have hf := it_f c57 hf
        refine lv_iload_n hx hb dX3_stepOn_60 rfl (lv_at hl 1 rfl) ?_
        refine lv_iload hx hb dX3_stepOn_61 (lv_at hl 4 rfl) ?_
        refine lv_iadd hx hb dX3_stepOn_63 ?_
        refine lv_iload hx hb dX3_stepOn_64 (lv_at hl 5 rfl) ?_
        obtain ⟨hz66, hf⟩ := ckZ_s hf
        refine lv_idiv hx hb dX3_stepOn_66 hz66 ?_
        refine lv_topi (fun v67 ev67 => ?_)
        have hf := nm_s ev67 hf
        refine lv_istore (lv' := [(8, .int v67), (0, .ref h), (1, .int x1), (2, .int x2), (3, .int x3), (4, .int x4), (5, .int x5), (6, .int x6), (7, .int x7)]) hx hb dX3_stepOn_67 hl (by decide) rfl (fun ls hl => ?_)
        refine lv_iload hx hb dX3_stepOn_69 (lv_at hl 0 rfl) ?_
        refine lv_iload hx hb dX3_stepOn_71 (lv_at hl 7 rfl) ?_
        refine lv_imul hx hb dX3_stepOn_73 ?_
        refine lv_iload_n hx hb dX3_stepOn_74 rfl (lv_at hl 4 rfl) ?_
        refine lv_isub hx hb dX3_stepOn_75 ?_
        refine lv_topi (fun v76 ev76 => ?_)
        have hf := nm_s ev76 hf
        refine lv_istore (lv' := [(9, .int v76), (8, .int v67), (0, .ref h), (1, .int x1), (2, .int x2), (3, .int x3), (4, .int x4), (5, .int x5), (6, .int x6), (7, .int x7)]) hx hb dX3_stepOn_76 hl (by decide) rfl (fun ls hl => ?_)
        refine lv_iload hx hb dX3_stepOn_78 (lv_at hl 1 rfl) ?_
        refine lv_iload hx hb dX3_stepOn_80 (lv_at hl 7 rfl) ?_
        refine lv_imul hx hb dX3_stepOn_82 ?_
        refine lv_iload hx hb dX3_stepOn_83 (lv_at hl 6 rfl) ?_
        refine lv_isub hx hb dX3_stepOn_85 ?_
        refine lv_topi (fun v86 ev86 => ?_)
        have hf := nm_s ev86 hf
        refine lv_istore (lv' := [(10, .int v86), (9, .int v76), (8, .int v67), (0, .ref h), (1, .int x1), (2, .int x2), (3, .int x3), (4, .int x4), (5, .int x5), (6, .int x6), (7, .int x7)]) hx hb dX3_stepOn_86 hl (by decide) rfl (fun ls hl => ?_)
        refine lv_iload hx hb dX3_stepOn_88 (lv_at hl 9 rfl) ?_
        refine lv_istore_n (lv' := [(3, .int x6), (10, .int v86), (9, .int v76), (8, .int v67), (0, .ref h), (1, .int x1), (2, .int x2), (4, .int x4), (5, .int x5), (6, .int x6), (7, .int x7)]) hx hb dX3_stepOn_90 rfl hl (by decide) rfl (fun ls hl => ?_)
        refine lv_iload hx hb dX3_stepOn_91 (lv_at hl 8 rfl) ?_
        refine lv_istore (lv' := [(4, .int x5), (3, .int x6), (10, .int v86), (9, .int v76), (8, .int v67), (0, .ref h), (1, .int x1), (2, .int x2), (5, .int x5), (6, .int x6), (7, .int x7)]) hx hb dX3_stepOn_93 hl (by decide) rfl (fun ls hl => ?_)
        refine lv_iload hx hb dX3_stepOn_95 (lv_at hl 3 rfl) ?_
        refine lv_istore (lv' := [(6, .int v76), (4, .int x5), (3, .int x6), (10, .int v86), (9, .int v76), (8, .int v67), (0, .ref h), (1, .int x1), (2, .int x2), (5, .int x5), (7, .int x7)]) hx hb dX3_stepOn_97 hl (by decide) rfl (fun ls hl => ?_)
        refine lv_iload hx hb dX3_stepOn_99 (lv_at hl 3 rfl) ?_
        refine lv_istore (lv' := [(5, .int v86), (6, .int v76), (4, .int x5), (3, .int x6), (10, .int v86), (9, .int v76), (8, .int v67), (0, .ref h), (1, .int x1), (2, .int x2), (7, .int x7)]) hx hb dX3_stepOn_101 hl (by decide) rfl (fun ls hl => ?_)
        obtain ⟨v103, ev103⟩ : ∃ y : Int32, y = x7 + 1 := ⟨_, rfl⟩
        have hf := nm_s ev103 hf
        refine lv_iinc (v := v103) (lv' := [(7, .int v103), (5, .int v86), (6, .int v76), (4, .int x5), (3, .int x6), (10, .int v86), (9, .int v76), (8, .int v67), (0, .ref h), (1, .int x1), (2, .int x2)]) hx hb dX3_stepOn_103 hl (k := 10) rfl (by rw [ev103]; rfl) (by decide) rfl (fun ls hl => ?_)
        refine lv_goto (tgt := 49) hx hb dX3_stepOn_106 (by decide) ?_
        exact hk49  qs ts bs cn x1 x2 x6 x5 v86 v76 v103 _ _ _ hf hP hD hS (lv_sub hl [8, 9, 10, 4, 3, 1, 2, 0] rfl)
  have L49 : ∀ (fu : Nat) (qs : Nat → Int32) (ts : Nat → Int32) (bs : Nat → Int32) (cn : Int32) (x1 : Int32) (x2 : Int32) (x3 : Int32) (x4 : Int32) (x5 : Int32) (x6 : Int32) (x7 : Int32) (H : Heap) (locs : List Loc) (ls : Array Slot), fX3_stepOn_L49   fu qs ts bs cn x1 x2 x3 x4 x5 x6 x7 = some (o_qs, o_ts, o_bs, o_cn) → va_P G vwCl [(h, .inr (3, [.ref e0, .ref r0])), (e0, .inr (0, [.ref a1, .ref a2, .ref a3, .int cn])), (a1, .inl (cI, 32, .inl qs)), (a2, .inl (cI, 33, .inl ts)), (a3, .inl (cI, 33, .inl bs)), (r0, .inr (2, [.ref a4])), (a4, .inl (cI, 201, .inl mo))] H → va_D A [(h, .inr (3, [.ref e0, .ref r0])), (e0, .inr (0, [.ref a1, .ref a2, .ref a3, .int cn])), (a1, .inl (cI, 32, .inl qs)), (a2, .inl (cI, 33, .inl ts)), (a3, .inl (cI, 33, .inl bs)), (r0, .inr (2, [.ref a4])), (a4, .inl (cI, 201, .inl mo))] → va_S A s.heap H locs → lv_has ls 11 [(0, .ref h), (1, .int x1), (2, .int x2), (3, .int x3), (4, .int x4), (5, .int x5), (6, .int x6), (7, .int x7)] → W p l e (headSpec wsX3_stepOn ({ frames := 3, cells := 0, slots := 0, locals := 70 })).room s m ([.ref h, .int p1, .int p2].toArray) below meth c H locs 0 0 (Qf (o_qs, o_ts, o_bs, o_cn)) (F0 m 49 ls []) := by
    intro  fu
    induction fu with
    | zero => intro  qs ts bs cn x1 x2 x3 x4 x5 x6 x7 H locs ls hf; cases hf
    | succ fu ih => intro  qs ts bs cn x1 x2 x3 x4 x5 x6 x7 H locs ls hf hP hD hS hl; exact B49 (fX3_stepOn_L49   fu) ih  qs ts bs cn x1 x2 x3 x4 x5 x6 x7 _ _ _ hf hP hD hS hl
  have J44 : ∀ (qs : Nat → Int32) (ts : Nat → Int32) (bs : Nat → Int32) (cn : Int32) (x1 : Int32) (x2 : Int32) (x3 : Int32) (x4 : Int32) (x5 : Int32) (y0 : Int32) (H : Heap) (locs : List Loc) (ls : Array Slot), fX3_stepOn_J44   qs ts bs cn x1 x2 x3 x4 x5 y0 = some (o_qs, o_ts, o_bs, o_cn) → va_P G vwCl [(h, .inr (3, [.ref e0, .ref r0])), (e0, .inr (0, [.ref a1, .ref a2, .ref a3, .int cn])), (a1, .inl (cI, 32, .inl qs)), (a2, .inl (cI, 33, .inl ts)), (a3, .inl (cI, 33, .inl bs)), (r0, .inr (2, [.ref a4])), (a4, .inl (cI, 201, .inl mo))] H → va_D A [(h, .inr (3, [.ref e0, .ref r0])), (e0, .inr (0, [.ref a1, .ref a2, .ref a3, .int cn])), (a1, .inl (cI, 32, .inl qs)), (a2, .inl (cI, 33, .inl ts)), (a3, .inl (cI, 33, .inl bs)), (r0, .inr (2, [.ref a4])), (a4, .inl (cI, 201, .inl mo))] → va_S A s.heap H locs → lv_has ls 11 [(0, .ref h), (1, .int x1), (2, .int x2), (3, .int x3), (4, .int x4), (5, .int x5)] → W p l e (headSpec wsX3_stepOn ({ frames := 3, cells := 0, slots := 0, locals := 70 })).room s m ([.ref h, .int p1, .int p2].toArray) below meth c H locs 0 0 (Qf (o_qs, o_ts, o_bs, o_cn)) (F0 m 44 ls [.int y0]) := by
    intro   qs ts bs cn x1 x2 x3 x4 x5 y0 H locs ls hf hP hD hS hl
    unfold fX3_stepOn_J44 at hf
    refine lv_istore (lv' := [(6, .int y0), (0, .ref h), (1, .int x1), (2, .int x2), (3, .int x3), (4, .int x4), (5, .int x5)]) hx hb dX3_stepOn_44 hl (by decide) rfl (fun ls hl => ?_)
    refine lv_iconst (v := 0) hx hb dX3_stepOn_46 (by decide) ?_
    refine lv_istore (lv' := [(7, .int 0), (6, .int y0), (0, .ref h), (1, .int x1), (2, .int x2), (3, .int x3), (4, .int x4), (5, .int x5)]) hx hb dX3_stepOn_47 hl (by decide) rfl (fun ls hl => ?_)
    exact L49  FU  qs ts bs cn x1 x2 x3 x4 x5 y0 0 _ _ _ hf hP hD hS (lv_sub hl [2, 3, 4, 5, 6, 7, 1, 0] rfl)
  have hl := lv_entry ([.ref h, .int p1, .int p2]) (n := 11) (Nat.le_of_ble_eq_true rfl)
  rw [lg_entry_eq]
  generalize (lg_sl ([.ref h, .int p1, .int p2]) ++ List.replicate (11 - (lg_sl ([.ref h, .int p1, .int p2])).length) Slot.unset).toArray = ls at hl ⊢
  have hl : lv_has ls 11 [(0, .ref h), (1, .int p1), (2, .int p2)] := hl
  unfold fX3_stepOn at hf
  refine lv_aload_n hx hb dX3_stepOn_0 rfl (lv_at hl 0 rfl) ?_
  refine va_get (D := G) (ci := 3) (v := .ref e0) (C := RX3) (T := TX3) (N := 2) hx hb hts hinX3 hown hK.1 hP 0 rfl rfl 0 (by decide) w0 (fun _ h9 => h9) rfl dX3_stepOn_1 ?_
  obtain ⟨r4, hv4, hf⟩ := bd1_s hf
  refine roVi (As := []) (rest := []) ⟨hx, hb, hml, hown, hts⟩ (zX0_top l G cI _ e0 a1 a2 a3 qs ts bs cn  hv4) (cwV 0 hts gX3_stepOn_X0_top rfl rfl rfl (by decide +kernel) ⟨Nat.le_of_ble_eq_true rfl, Nat.le_of_ble_eq_true rfl⟩) hK hP (hP.sub [1, 2, 3, 4] rfl) rfl rfl rfl hl.1 rfl (Nat.le_of_ble_eq_true rfl) dX3_stepOn_4 ⟨Nat.le_of_ble_eq_true rfl, Nat.le_of_ble_eq_true rfl⟩ hS hA (fun H locs hP hz4 hS => ?_)
  refine lv_istore_n (lv' := [(3, .int r4), (0, .ref h), (1, .int p1), (2, .int p2)]) hx hb dX3_stepOn_7 rfl hl (by decide) rfl (fun ls hl => ?_)
  refine lv_aload_n hx hb dX3_stepOn_8 rfl (lv_at hl 1 rfl) ?_
  refine va_get (D := G) (ci := 3) (v := .ref e0) (C := RX3) (T := TX3) (N := 2) hx hb hts hinX3 hown hK.1 hP 0 rfl rfl 0 (by decide) w0 (fun _ h9 => h9) rfl dX3_stepOn_9 ?_
  obtain ⟨r12, hv12, hf⟩ := bd1_s hf
  refine roVi (As := []) (rest := []) ⟨hx, hb, hml, hown, hts⟩ (zX0_bottom l G cI _ e0 a1 a2 a3 qs ts bs cn  hv12) (cwV 0 hts gX3_stepOn_X0_bottom rfl rfl rfl (by decide +kernel) ⟨Nat.le_of_ble_eq_true rfl, Nat.le_of_ble_eq_true rfl⟩) hK hP (hP.sub [1, 2, 3, 4] rfl) rfl rfl rfl hl.1 rfl (Nat.le_of_ble_eq_true rfl) dX3_stepOn_12 ⟨Nat.le_of_ble_eq_true rfl, Nat.le_of_ble_eq_true rfl⟩ hS hA (fun H locs hP hz12 hS => ?_)
  refine lv_istore (lv' := [(4, .int r12), (3, .int r4), (0, .ref h), (1, .int p1), (2, .int p2)]) hx hb dX3_stepOn_15 hl (by decide) rfl (fun ls hl => ?_)
  refine lv_iload_n hx hb dX3_stepOn_17 rfl (lv_at hl 3 rfl) ?_
  refine lv_iload_n hx hb dX3_stepOn_18 rfl (lv_at hl 1 rfl) ?_
  refine lv_iload hx hb dX3_stepOn_19 (lv_at hl 0 rfl) ?_
  obtain ⟨r21, hv21, hf⟩ := bd1_s hf
  refine roSi (As := [.int p1, .int r4, .int r12]) (rest := []) ⟨hx, hb, hml, hown, hts⟩ (zX2_bottomBehind l G cI _ p1 r4 r12 hv21) (va_cwS 3 hts gX3_stepOn_X2_bottomBehind rfl rfl rfl (by decide +kernel) ⟨Nat.le_of_ble_eq_true rfl, Nat.le_of_ble_eq_true rfl⟩) hK hP rfl hl.1 rfl (Nat.le_of_ble_eq_true rfl) dX3_stepOn_21 ⟨Nat.le_of_ble_eq_true rfl, Nat.le_of_ble_eq_true rfl⟩ hS hA (fun H locs hP hz21 hS => ?_)
  refine lv_istore (lv' := [(5, .int r21), (4, .int r12), (3, .int r4), (0, .ref h), (1, .int p1), (2, .int p2)]) hx hb dX3_stepOn_24 hl (by decide) rfl (fun ls hl => ?_)
  refine lv_iload hx hb dX3_stepOn_26 (lv_at hl 1 rfl) ?_
  refine lv_if_le (tgt := 43) hx hb dX3_stepOn_28 (by decide) (fun c28 => ?_) (fun c28 => ?_)
  · have hf := it_t c28 hf
    refine lv_iconst (v := 0) hx hb dX3_stepOn_43 (by decide) ?_
    exact J44   qs ts bs cn p1 p2 r4 r12 r21 0 _ _ _ hf hP hD hS (lv_sub hl [3, 4, 5, 2, 1, 0] rfl)
  · have hf := it_f c28 hf
    refine lv_iload_n hx hb dX3_stepOn_31 rfl (lv_at hl 2 rfl) ?_
    refine lv_iload hx hb dX3_stepOn_32 (lv_at hl 0 rfl) ?_
    refine lv_imul hx hb dX3_stepOn_34 ?_
    refine lv_iconst (v := 1) hx hb dX3_stepOn_35 (by decide) ?_
    refine lv_iadd hx hb dX3_stepOn_36 ?_
    refine lv_iload hx hb dX3_stepOn_37 (lv_at hl 1 rfl) ?_
    obtain ⟨hz39, hf⟩ := ckZ_s hf
    refine lv_idiv hx hb dX3_stepOn_39 hz39 ?_
    refine lv_goto (tgt := 44) hx hb dX3_stepOn_40 (by decide) ?_
    exact J44   qs ts bs cn p1 p2 r4 r12 r21 (((r4 * r21) + 1) / r12) _ _ _ hf hP hD hS (lv_sub hl [3, 4, 5, 2, 1, 0] rfl)
def fX3_part (ts : Nat → Int32) (bs : Nat → Int32) (cn : Int32) (p1 : Int32) : Option (Int32) :=
  bd1 (fX0_top ts cn) fun r5 =>
  bd1 (fX0_bottom bs cn) fun r12 =>
  bd1 (fX3_topOrBottom p1 r5 r12) fun r15 =>
  some r15
set_option maxHeartbeats 4000000 in
set_option maxRecDepth 100000 in
theorem zX3_part (l : Launch) (G : va_G) (cI : ClassId) (sz : Nat) (h e0 a1 a2 a3 r0 a4 : Nat) (qs : Nat → Int32) (ts : Nat → Int32) (bs : Nat → Int32) (cn : Int32) (mo : Nat → Int32) (p1 : Int32) {rv : Int32} (hf : fX3_part ts bs cn p1 = some rv) : mRi l yX3_part wsX3_part ({ frames := 1, cells := 0, slots := 0, locals := 22 }) [.ref h, .int p1] G cI [(h, .inr (3, [.ref e0, .ref r0])), (e0, .inr (0, [.ref a1, .ref a2, .ref a3, .int cn])), (a1, .inl (cI, 32, .inl qs)), (a2, .inl (cI, 33, .inl ts)), (a3, .inl (cI, 33, .inl bs)), (r0, .inr (2, [.ref a4])), (a4, .inl (cI, 201, .inl mo))] sz rv := by
  refine Met.ofW (cc := cX3_part) (maxL := 2) (ret := (some .int)) (by decide) rfl ?_
  intro p e s m args below meth c s₁ B hml hv
  obtain ⟨rfl, hsz, hP, hK⟩ := hv
  have hx := B.exec
  have hb := B.bytes
  have hr := B.returns
  have hts := atoms_spec (ws := wsX3_part) B.pre
  have hown : s.vm.findClass RX3 = some m.cls := findClass_of_methodNamed B.named
  have hlocks := B.notSynchronized
  subst hsz
  generalize hAe : va_A [] s.heap.size = A
  have hA : ∀ q : Nat, s.heap.size ≤ q → A q := fun q h => by rw [← hAe]; exact Or.inr h
  have hS : va_S A s.heap s.heap [] := va_S.rf
  have w0 := hts (.fieldLink RX3 10 "SternDesk" "hand" "LSternDesk$Expansion;") (by decide +kernel)
  have hinX3 : ∀ w ∈ u_ws RX3 TX3 2, w ∈ wsX3_part := by decide +kernel
  obtain ⟨Qf, hQf⟩ : ∃ f : Int32 → State → Prop, f = fun z => MQ below (va_Qi (fun (r : Int32) (_ : Unit) => r = z) (fun _ _ => True) A) ([.ref h, .int p1].toArray) s 0 0 A := ⟨_, rfl⟩
  suffices hgo : W p l e (headSpec wsX3_part ({ frames := 1, cells := 0, slots := 0, locals := 22 })).room s m ([.ref h, .int p1].toArray) below meth c s.heap [] 0 0 (Qf rv) (entryFrame m ([.ref h, .int p1].toArray) 2) by rw [hQf] at hgo; exact hgo
  have hl := lv_entry ([.ref h, .int p1]) (n := 2) (Nat.le_of_ble_eq_true rfl)
  rw [lg_entry_eq]
  generalize (lg_sl ([.ref h, .int p1]) ++ List.replicate (2 - (lg_sl ([.ref h, .int p1])).length) Slot.unset).toArray = ls at hl ⊢
  have hl : lv_has ls 2 [(0, .ref h), (1, .int p1)] := hl
  unfold fX3_part at hf
  refine lv_iload_n hx hb dX3_part_0 rfl (lv_at hl 1 rfl) ?_
  refine lv_aload_n hx hb dX3_part_1 rfl (lv_at hl 0 rfl) ?_
  refine va_get (D := G) (ci := 3) (v := .ref e0) (C := RX3) (T := TX3) (N := 2) hx hb hts hinX3 hown hK.1 hP 0 rfl rfl 0 (by decide) w0 (fun _ h9 => h9) rfl dX3_part_2 ?_
  obtain ⟨r5, hv5, hf⟩ := bd1_s hf
  refine roVi (As := []) (rest := [.int p1]) ⟨hx, hb, hml, hown, hts⟩ (zX0_top l G cI _ e0 a1 a2 a3 qs ts bs cn  hv5) (cwV 0 hts gX3_part_X0_top rfl rfl rfl (by decide +kernel) ⟨Nat.le_of_ble_eq_true rfl, Nat.le_of_ble_eq_true rfl⟩) hK hP (hP.sub [1, 2, 3, 4] rfl) rfl rfl rfl hl.1 rfl (Nat.le_of_ble_eq_true rfl) dX3_part_5 ⟨Nat.le_of_ble_eq_true rfl, Nat.le_of_ble_eq_true rfl⟩ hS hA (fun H locs hP hz5 hS => ?_)
  refine lv_aload_n hx hb dX3_part_8 rfl (lv_at hl 0 rfl) ?_
  refine va_get (D := G) (ci := 3) (v := .ref e0) (C := RX3) (T := TX3) (N := 2) hx hb hts hinX3 hown hK.1 hP 0 rfl rfl 0 (by decide) w0 (fun _ h9 => h9) rfl dX3_part_9 ?_
  obtain ⟨r12, hv12, hf⟩ := bd1_s hf
  refine roVi (As := []) (rest := [.int r5, .int p1]) ⟨hx, hb, hml, hown, hts⟩ (zX0_bottom l G cI _ e0 a1 a2 a3 qs ts bs cn  hv12) (cwV 0 hts gX3_part_X0_bottom rfl rfl rfl (by decide +kernel) ⟨Nat.le_of_ble_eq_true rfl, Nat.le_of_ble_eq_true rfl⟩) hK hP (hP.sub [1, 2, 3, 4] rfl) rfl rfl rfl hl.1 rfl (Nat.le_of_ble_eq_true rfl) dX3_part_12 ⟨Nat.le_of_ble_eq_true rfl, Nat.le_of_ble_eq_true rfl⟩ hS hA (fun H locs hP hz12 hS => ?_)
  obtain ⟨r15, hv15, hf⟩ := bd1_s hf
  refine roSi (As := [.int p1, .int r5, .int r12]) (rest := []) ⟨hx, hb, hml, hown, hts⟩ (zX3_topOrBottom l G cI _ p1 r5 r12 hv15) (va_cwS 3 hts gX3_part_X3_topOrBottom rfl rfl rfl (by decide +kernel) ⟨Nat.le_of_ble_eq_true rfl, Nat.le_of_ble_eq_true rfl⟩) hK hP rfl hl.1 rfl (Nat.le_of_ble_eq_true rfl) dX3_part_15 ⟨Nat.le_of_ble_eq_true rfl, Nat.le_of_ble_eq_true rfl⟩ hS hA (fun H locs hP hz15 hS => ?_)
  refine qf_s (Qf := Qf) hf ?_
  rw [hQf]
  exact W.iret hx hb hr (fun t ht hW => ⟨⟨_, (), rfl, rfl, trivial⟩, hS.F ht⟩) hS.2.2 dX3_part_18
def fX3_terms (cn : Int32) : Option (Int32) :=
  some cn
set_option maxHeartbeats 4000000 in
set_option maxRecDepth 100000 in
theorem zX3_terms (l : Launch) (G : va_G) (cI : ClassId) (sz : Nat) (h e0 a1 a2 a3 r0 a4 : Nat) (qs : Nat → Int32) (ts : Nat → Int32) (bs : Nat → Int32) (cn : Int32) (mo : Nat → Int32) {rv : Int32} (hf : fX3_terms cn = some rv) : mRi l yX3_terms wsX3_terms ({ frames := 0, cells := 0, slots := 0, locals := 0 }) [.ref h] G cI [(h, .inr (3, [.ref e0, .ref r0])), (e0, .inr (0, [.ref a1, .ref a2, .ref a3, .int cn])), (a1, .inl (cI, 32, .inl qs)), (a2, .inl (cI, 33, .inl ts)), (a3, .inl (cI, 33, .inl bs)), (r0, .inr (2, [.ref a4])), (a4, .inl (cI, 201, .inl mo))] sz rv := by
  refine Met.ofW (cc := cX3_terms) (maxL := 1) (ret := (some .int)) (by decide) rfl ?_
  intro p e s m args below meth c s₁ B hml hv
  obtain ⟨rfl, hsz, hP, hK⟩ := hv
  have hx := B.exec
  have hb := B.bytes
  have hr := B.returns
  have hts := atoms_spec (ws := wsX3_terms) B.pre
  have hown : s.vm.findClass RX3 = some m.cls := findClass_of_methodNamed B.named
  have hlocks := B.notSynchronized
  subst hsz
  generalize hAe : va_A [] s.heap.size = A
  have hA : ∀ q : Nat, s.heap.size ≤ q → A q := fun q h => by rw [← hAe]; exact Or.inr h
  have hS : va_S A s.heap s.heap [] := va_S.rf
  have w0 := hts (.fieldLink RX3 10 "SternDesk" "hand" "LSternDesk$Expansion;") (by decide +kernel)
  have hinX3 : ∀ w ∈ u_ws RX3 TX3 2, w ∈ wsX3_terms := by decide +kernel
  have w2 := hts (.fieldLink RX3 50 "SternDesk$Expansion" "count" "I") (by decide +kernel)
  have hinX0 : ∀ w ∈ u_ws RX0 TX0 4, w ∈ wsX3_terms := by decide +kernel
  obtain ⟨Qf, hQf⟩ : ∃ f : Int32 → State → Prop, f = fun z => MQ below (va_Qi (fun (r : Int32) (_ : Unit) => r = z) (fun _ _ => True) A) ([.ref h].toArray) s 0 0 A := ⟨_, rfl⟩
  suffices hgo : W p l e (headSpec wsX3_terms ({ frames := 0, cells := 0, slots := 0, locals := 0 })).room s m ([.ref h].toArray) below meth c s.heap [] 0 0 (Qf rv) (entryFrame m ([.ref h].toArray) 1) by rw [hQf] at hgo; exact hgo
  have hl := lv_entry ([.ref h]) (n := 1) (Nat.le_of_ble_eq_true rfl)
  rw [lg_entry_eq]
  generalize (lg_sl ([.ref h]) ++ List.replicate (1 - (lg_sl ([.ref h])).length) Slot.unset).toArray = ls at hl ⊢
  have hl : lv_has ls 1 [(0, .ref h)] := hl
  unfold fX3_terms at hf
  refine lv_aload_n hx hb dX3_terms_0 rfl (lv_at hl 0 rfl) ?_
  refine va_get (D := G) (ci := 3) (v := .ref e0) (C := RX3) (T := TX3) (N := 2) hx hb hts hinX3 hown hK.1 hP 0 rfl rfl 0 (by decide) w0 (fun _ h9 => h9) rfl dX3_terms_1 ?_
  refine va_get (D := G) (ci := 0) (v := .int cn) (C := RX0) (T := TX0) (N := 4) hx hb hts hinX0 hown hK.1 hP 1 rfl rfl 3 (by decide) w2 (fun _ h9 => h9) rfl dX3_terms_4 ?_
  refine qf_s (Qf := Qf) hf ?_
  rw [hQf]
  exact W.iret hx hb hr (fun t ht hW => ⟨⟨_, (), rfl, rfl, trivial⟩, hS.F ht⟩) hS.2.2 dX3_terms_7
def fX3_term (qs : Nat → Int32) (cn : Int32) (p1 : Int32) : Option (Int32) :=
  bd1 (fX3_isTerm cn p1) fun r2 =>
  if r2 = 0 then
    some (-1)
  else
    ckI p1 32 <|
    some (qs (Int32.toNatClampNeg p1))
set_option maxHeartbeats 4000000 in
set_option maxRecDepth 100000 in
theorem zX3_term (l : Launch) (G : va_G) (cI : ClassId) (sz : Nat) (h e0 a1 a2 a3 r0 a4 : Nat) (qs : Nat → Int32) (ts : Nat → Int32) (bs : Nat → Int32) (cn : Int32) (mo : Nat → Int32) (p1 : Int32) {rv : Int32} (hf : fX3_term qs cn p1 = some rv) : mRi l yX3_term wsX3_term ({ frames := 1, cells := 0, slots := 0, locals := 21 }) [.ref h, .int p1] G cI [(h, .inr (3, [.ref e0, .ref r0])), (e0, .inr (0, [.ref a1, .ref a2, .ref a3, .int cn])), (a1, .inl (cI, 32, .inl qs)), (a2, .inl (cI, 33, .inl ts)), (a3, .inl (cI, 33, .inl bs)), (r0, .inr (2, [.ref a4])), (a4, .inl (cI, 201, .inl mo))] sz rv := by
  refine Met.ofW (cc := cX3_term) (maxL := 2) (ret := (some .int)) (by decide) rfl ?_
  intro p e s m args below meth c s₁ B hml hv
  obtain ⟨rfl, hsz, hP, hK⟩ := hv
  have hx := B.exec
  have hb := B.bytes
  have hr := B.returns
  have hts := atoms_spec (ws := wsX3_term) B.pre
  have hown : s.vm.findClass RX3 = some m.cls := findClass_of_methodNamed B.named
  have hlocks := B.notSynchronized
  subst hsz
  generalize hAe : va_A [] s.heap.size = A
  have hA : ∀ q : Nat, s.heap.size ≤ q → A q := fun q h => by rw [← hAe]; exact Or.inr h
  have hS : va_S A s.heap s.heap [] := va_S.rf
  have w0 := hts (.fieldLink RX3 10 "SternDesk" "hand" "LSternDesk$Expansion;") (by decide +kernel)
  have hinX3 : ∀ w ∈ u_ws RX3 TX3 2, w ∈ wsX3_term := by decide +kernel
  have w2 := hts (.fieldLink RX3 58 "SternDesk$Expansion" "quotients" "[I") (by decide +kernel)
  have hinX0 : ∀ w ∈ u_ws RX0 TX0 4, w ∈ wsX3_term := by decide +kernel
  obtain ⟨Qf, hQf⟩ : ∃ f : Int32 → State → Prop, f = fun z => MQ below (va_Qi (fun (r : Int32) (_ : Unit) => r = z) (fun _ _ => True) A) ([.ref h, .int p1].toArray) s 0 0 A := ⟨_, rfl⟩
  suffices hgo : W p l e (headSpec wsX3_term ({ frames := 1, cells := 0, slots := 0, locals := 21 })).room s m ([.ref h, .int p1].toArray) below meth c s.heap [] 0 0 (Qf rv) (entryFrame m ([.ref h, .int p1].toArray) 2) by rw [hQf] at hgo; exact hgo
  have hl := lv_entry ([.ref h, .int p1]) (n := 2) (Nat.le_of_ble_eq_true rfl)
  rw [lg_entry_eq]
  generalize (lg_sl ([.ref h, .int p1]) ++ List.replicate (2 - (lg_sl ([.ref h, .int p1])).length) Slot.unset).toArray = ls at hl ⊢
  have hl : lv_has ls 2 [(0, .ref h), (1, .int p1)] := hl
  unfold fX3_term at hf
  refine lv_aload_n hx hb dX3_term_0 rfl (lv_at hl 0 rfl) ?_
  refine lv_iload_n hx hb dX3_term_1 rfl (lv_at hl 1 rfl) ?_
  obtain ⟨r2, hv2, hf⟩ := bd1_s hf
  refine roVi (As := [.int p1]) (rest := []) ⟨hx, hb, hml, hown, hts⟩ (zX3_isTerm l G cI _ h e0 a1 a2 a3 r0 a4 qs ts bs cn mo p1 hv2) (cwV 1 hts gX3_term_X3_isTerm rfl rfl rfl (by decide +kernel) ⟨Nat.le_of_ble_eq_true rfl, Nat.le_of_ble_eq_true rfl⟩) hK hP (hP.sub [0, 1, 2, 3, 4, 5, 6] rfl) rfl rfl rfl hl.1 rfl (Nat.le_of_ble_eq_true rfl) dX3_term_2 ⟨Nat.le_of_ble_eq_true rfl, Nat.le_of_ble_eq_true rfl⟩ hS hA (fun H locs hP hz2 hS => ?_)
  refine lv_if_eq (tgt := 20) hx hb dX3_term_5 (by decide) (fun c5 => ?_) (fun c5 => ?_)
  · have hf := it_t c5 hf
    refine lv_iconst (v := (-1)) hx hb dX3_term_20 (by decide) ?_
    refine qf_s (Qf := Qf) hf ?_
    rw [hQf]
    exact W.iret hx hb hr (fun t ht hW => ⟨⟨_, (), rfl, rfl, trivial⟩, hS.F ht⟩) hS.2.2 dX3_term_21
  · have hf := it_f c5 hf
    refine lv_aload_n hx hb dX3_term_8 rfl (lv_at hl 0 rfl) ?_
    refine va_get (D := G) (ci := 3) (v := .ref e0) (C := RX3) (T := TX3) (N := 2) hx hb hts hinX3 hown hK.1 hP 0 rfl rfl 0 (by decide) w0 (fun _ h9 => h9) rfl dX3_term_9 ?_
    refine va_get (D := G) (ci := 0) (v := .ref a1) (C := RX0) (T := TX0) (N := 4) hx hb hts hinX0 hown hK.1 hP 1 rfl rfl 0 (by decide) w2 (fun _ h9 => h9) rfl dX3_term_12 ?_
    refine lv_iload_n hx hb dX3_term_15 rfl (lv_at hl 1 rfl) ?_
    obtain ⟨hi16, hf⟩ := ckI_s hf
    refine va_iald hx hb hK.1 hP 2 0 rfl rfl hi16 dX3_term_16 ?_
    refine lv_goto (tgt := 21) hx hb dX3_term_17 (by decide) ?_
    refine qf_s (Qf := Qf) hf ?_
    rw [hQf]
    exact W.iret hx hb hr (fun t ht hW => ⟨⟨_, (), rfl, rfl, trivial⟩, hS.F ht⟩) hS.2.2 dX3_term_21
def fX3_convergent (ts : Nat → Int32) (bs : Nat → Int32) (cn : Int32) (p1 : Int32) (p2 : Int32) : Option (Int32) :=
  bd1 (fX3_isTerm cn p1) fun r2 =>
  if r2 = 0 then
    some (-1)
  else
    ckI (p1 + 1) 33 <|
    ckI (p1 + 1) 33 <|
    bd1 (fX3_topOrBottom p2 (ts (Int32.toNatClampNeg (p1 + 1))) (bs (Int32.toNatClampNeg (p1 + 1)))) fun r31 =>
    some r31
set_option maxHeartbeats 4000000 in
set_option maxRecDepth 100000 in
theorem zX3_convergent (l : Launch) (G : va_G) (cI : ClassId) (sz : Nat) (h e0 a1 a2 a3 r0 a4 : Nat) (qs : Nat → Int32) (ts : Nat → Int32) (bs : Nat → Int32) (cn : Int32) (mo : Nat → Int32) (p1 : Int32) (p2 : Int32) {rv : Int32} (hf : fX3_convergent ts bs cn p1 p2 = some rv) : mRi l yX3_convergent wsX3_convergent ({ frames := 1, cells := 0, slots := 0, locals := 22 }) [.ref h, .int p1, .int p2] G cI [(h, .inr (3, [.ref e0, .ref r0])), (e0, .inr (0, [.ref a1, .ref a2, .ref a3, .int cn])), (a1, .inl (cI, 32, .inl qs)), (a2, .inl (cI, 33, .inl ts)), (a3, .inl (cI, 33, .inl bs)), (r0, .inr (2, [.ref a4])), (a4, .inl (cI, 201, .inl mo))] sz rv := by
  refine Met.ofW (cc := cX3_convergent) (maxL := 3) (ret := (some .int)) (by decide) rfl ?_
  intro p e s m args below meth c s₁ B hml hv
  obtain ⟨rfl, hsz, hP, hK⟩ := hv
  have hx := B.exec
  have hb := B.bytes
  have hr := B.returns
  have hts := atoms_spec (ws := wsX3_convergent) B.pre
  have hown : s.vm.findClass RX3 = some m.cls := findClass_of_methodNamed B.named
  have hlocks := B.notSynchronized
  subst hsz
  generalize hAe : va_A [] s.heap.size = A
  have hA : ∀ q : Nat, s.heap.size ≤ q → A q := fun q h => by rw [← hAe]; exact Or.inr h
  have hS : va_S A s.heap s.heap [] := va_S.rf
  have w0 := hts (.fieldLink RX3 10 "SternDesk" "hand" "LSternDesk$Expansion;") (by decide +kernel)
  have hinX3 : ∀ w ∈ u_ws RX3 TX3 2, w ∈ wsX3_convergent := by decide +kernel
  have w2 := hts (.fieldLink RX3 62 "SternDesk$Expansion" "tops" "[I") (by decide +kernel)
  have hinX0 : ∀ w ∈ u_ws RX0 TX0 4, w ∈ wsX3_convergent := by decide +kernel
  have w4 := hts (.fieldLink RX3 65 "SternDesk$Expansion" "bottoms" "[I") (by decide +kernel)
  obtain ⟨Qf, hQf⟩ : ∃ f : Int32 → State → Prop, f = fun z => MQ below (va_Qi (fun (r : Int32) (_ : Unit) => r = z) (fun _ _ => True) A) ([.ref h, .int p1, .int p2].toArray) s 0 0 A := ⟨_, rfl⟩
  suffices hgo : W p l e (headSpec wsX3_convergent ({ frames := 1, cells := 0, slots := 0, locals := 22 })).room s m ([.ref h, .int p1, .int p2].toArray) below meth c s.heap [] 0 0 (Qf rv) (entryFrame m ([.ref h, .int p1, .int p2].toArray) 3) by rw [hQf] at hgo; exact hgo
  have hl := lv_entry ([.ref h, .int p1, .int p2]) (n := 3) (Nat.le_of_ble_eq_true rfl)
  rw [lg_entry_eq]
  generalize (lg_sl ([.ref h, .int p1, .int p2]) ++ List.replicate (3 - (lg_sl ([.ref h, .int p1, .int p2])).length) Slot.unset).toArray = ls at hl ⊢
  have hl : lv_has ls 3 [(0, .ref h), (1, .int p1), (2, .int p2)] := hl
  unfold fX3_convergent at hf
  refine lv_aload_n hx hb dX3_convergent_0 rfl (lv_at hl 0 rfl) ?_
  refine lv_iload_n hx hb dX3_convergent_1 rfl (lv_at hl 1 rfl) ?_
  obtain ⟨r2, hv2, hf⟩ := bd1_s hf
  refine roVi (As := [.int p1]) (rest := []) ⟨hx, hb, hml, hown, hts⟩ (zX3_isTerm l G cI _ h e0 a1 a2 a3 r0 a4 qs ts bs cn mo p1 hv2) (cwV 1 hts gX3_convergent_X3_isTerm rfl rfl rfl (by decide +kernel) ⟨Nat.le_of_ble_eq_true rfl, Nat.le_of_ble_eq_true rfl⟩) hK hP (hP.sub [0, 1, 2, 3, 4, 5, 6] rfl) rfl rfl rfl hl.1 rfl (Nat.le_of_ble_eq_true rfl) dX3_convergent_2 ⟨Nat.le_of_ble_eq_true rfl, Nat.le_of_ble_eq_true rfl⟩ hS hA (fun H locs hP hz2 hS => ?_)
  refine lv_if_eq (tgt := 37) hx hb dX3_convergent_5 (by decide) (fun c5 => ?_) (fun c5 => ?_)
  · have hf := it_t c5 hf
    refine lv_iconst (v := (-1)) hx hb dX3_convergent_37 (by decide) ?_
    refine qf_s (Qf := Qf) hf ?_
    rw [hQf]
    exact W.iret hx hb hr (fun t ht hW => ⟨⟨_, (), rfl, rfl, trivial⟩, hS.F ht⟩) hS.2.2 dX3_convergent_38
  · have hf := it_f c5 hf
    refine lv_iload_n hx hb dX3_convergent_8 rfl (lv_at hl 2 rfl) ?_
    refine lv_aload_n hx hb dX3_convergent_9 rfl (lv_at hl 0 rfl) ?_
    refine va_get (D := G) (ci := 3) (v := .ref e0) (C := RX3) (T := TX3) (N := 2) hx hb hts hinX3 hown hK.1 hP 0 rfl rfl 0 (by decide) w0 (fun _ h9 => h9) rfl dX3_convergent_10 ?_
    refine va_get (D := G) (ci := 0) (v := .ref a2) (C := RX0) (T := TX0) (N := 4) hx hb hts hinX0 hown hK.1 hP 1 rfl rfl 1 (by decide) w2 (fun _ h9 => h9) rfl dX3_convergent_13 ?_
    refine lv_iload_n hx hb dX3_convergent_16 rfl (lv_at hl 1 rfl) ?_
    refine lv_iconst (v := 1) hx hb dX3_convergent_17 (by decide) ?_
    refine lv_iadd hx hb dX3_convergent_18 ?_
    obtain ⟨hi19, hf⟩ := ckI_s hf
    refine va_iald hx hb hK.1 hP 3 0 rfl rfl hi19 dX3_convergent_19 ?_
    refine lv_aload_n hx hb dX3_convergent_20 rfl (lv_at hl 0 rfl) ?_
    refine va_get (D := G) (ci := 3) (v := .ref e0) (C := RX3) (T := TX3) (N := 2) hx hb hts hinX3 hown hK.1 hP 0 rfl rfl 0 (by decide) w0 (fun _ h9 => h9) rfl dX3_convergent_21 ?_
    refine va_get (D := G) (ci := 0) (v := .ref a3) (C := RX0) (T := TX0) (N := 4) hx hb hts hinX0 hown hK.1 hP 1 rfl rfl 2 (by decide) w4 (fun _ h9 => h9) rfl dX3_convergent_24 ?_
    refine lv_iload_n hx hb dX3_convergent_27 rfl (lv_at hl 1 rfl) ?_
    refine lv_iconst (v := 1) hx hb dX3_convergent_28 (by decide) ?_
    refine lv_iadd hx hb dX3_convergent_29 ?_
    obtain ⟨hi30, hf⟩ := ckI_s hf
    refine va_iald hx hb hK.1 hP 4 0 rfl rfl hi30 dX3_convergent_30 ?_
    obtain ⟨r31, hv31, hf⟩ := bd1_s hf
    refine roSi (As := [.int p2, .int (ts (Int32.toNatClampNeg (p1 + 1))), .int (bs (Int32.toNatClampNeg (p1 + 1)))]) (rest := []) ⟨hx, hb, hml, hown, hts⟩ (zX3_topOrBottom l G cI _ p2 (ts (Int32.toNatClampNeg (p1 + 1))) (bs (Int32.toNatClampNeg (p1 + 1))) hv31) (va_cwS 3 hts gX3_convergent_X3_topOrBottom rfl rfl rfl (by decide +kernel) ⟨Nat.le_of_ble_eq_true rfl, Nat.le_of_ble_eq_true rfl⟩) hK hP rfl hl.1 rfl (Nat.le_of_ble_eq_true rfl) dX3_convergent_31 ⟨Nat.le_of_ble_eq_true rfl, Nat.le_of_ble_eq_true rfl⟩ hS hA (fun H locs hP hz31 hS => ?_)
    refine lv_goto (tgt := 38) hx hb dX3_convergent_34 (by decide) ?_
    refine qf_s (Qf := Qf) hf ?_
    rw [hQf]
    exact W.iret hx hb hr (fun t ht hW => ⟨⟨_, (), rfl, rfl, trivial⟩, hS.F ht⟩) hS.2.2 dX3_convergent_38
def fX3_way (qs : Nat → Int32) (ts : Nat → Int32) (bs : Nat → Int32) (cn : Int32) (p1 : Int32) : Option (Int32) :=
  bd1 (fX0_top ts cn) fun r4 =>
  if r4 = 0 then
    some (-1)
  else
    bd1 (fX0_countSteps qs cn) fun r17 =>
    bd1 (fX0_countRuns qs ts bs cn) fun r24 =>
    bd1 (fX3_topOrBottom p1 r17 r24) fun r27 =>
    some r27
set_option maxHeartbeats 4000000 in
set_option maxRecDepth 100000 in
theorem zX3_way (l : Launch) (G : va_G) (cI : ClassId) (sz : Nat) (h e0 a1 a2 a3 r0 a4 : Nat) (qs : Nat → Int32) (ts : Nat → Int32) (bs : Nat → Int32) (cn : Int32) (mo : Nat → Int32) (p1 : Int32) {rv : Int32} (hf : fX3_way qs ts bs cn p1 = some rv) : mRi l yX3_way wsX3_way ({ frames := 2, cells := 0, slots := 0, locals := 40 }) [.ref h, .int p1] G cI [(h, .inr (3, [.ref e0, .ref r0])), (e0, .inr (0, [.ref a1, .ref a2, .ref a3, .int cn])), (a1, .inl (cI, 32, .inl qs)), (a2, .inl (cI, 33, .inl ts)), (a3, .inl (cI, 33, .inl bs)), (r0, .inr (2, [.ref a4])), (a4, .inl (cI, 201, .inl mo))] sz rv := by
  refine Met.ofW (cc := cX3_way) (maxL := 2) (ret := (some .int)) (by decide) rfl ?_
  intro p e s m args below meth c s₁ B hml hv
  obtain ⟨rfl, hsz, hP, hK⟩ := hv
  have hx := B.exec
  have hb := B.bytes
  have hr := B.returns
  have hts := atoms_spec (ws := wsX3_way) B.pre
  have hown : s.vm.findClass RX3 = some m.cls := findClass_of_methodNamed B.named
  have hlocks := B.notSynchronized
  subst hsz
  generalize hAe : va_A [] s.heap.size = A
  have hA : ∀ q : Nat, s.heap.size ≤ q → A q := fun q h => by rw [← hAe]; exact Or.inr h
  have hS : va_S A s.heap s.heap [] := va_S.rf
  have w0 := hts (.fieldLink RX3 10 "SternDesk" "hand" "LSternDesk$Expansion;") (by decide +kernel)
  have hinX3 : ∀ w ∈ u_ws RX3 TX3 2, w ∈ wsX3_way := by decide +kernel
  obtain ⟨Qf, hQf⟩ : ∃ f : Int32 → State → Prop, f = fun z => MQ below (va_Qi (fun (r : Int32) (_ : Unit) => r = z) (fun _ _ => True) A) ([.ref h, .int p1].toArray) s 0 0 A := ⟨_, rfl⟩
  suffices hgo : W p l e (headSpec wsX3_way ({ frames := 2, cells := 0, slots := 0, locals := 40 })).room s m ([.ref h, .int p1].toArray) below meth c s.heap [] 0 0 (Qf rv) (entryFrame m ([.ref h, .int p1].toArray) 2) by rw [hQf] at hgo; exact hgo
  have hl := lv_entry ([.ref h, .int p1]) (n := 2) (Nat.le_of_ble_eq_true rfl)
  rw [lg_entry_eq]
  generalize (lg_sl ([.ref h, .int p1]) ++ List.replicate (2 - (lg_sl ([.ref h, .int p1])).length) Slot.unset).toArray = ls at hl ⊢
  have hl : lv_has ls 2 [(0, .ref h), (1, .int p1)] := hl
  unfold fX3_way at hf
  refine lv_aload_n hx hb dX3_way_0 rfl (lv_at hl 0 rfl) ?_
  refine va_get (D := G) (ci := 3) (v := .ref e0) (C := RX3) (T := TX3) (N := 2) hx hb hts hinX3 hown hK.1 hP 0 rfl rfl 0 (by decide) w0 (fun _ h9 => h9) rfl dX3_way_1 ?_
  obtain ⟨r4, hv4, hf⟩ := bd1_s hf
  refine roVi (As := []) (rest := []) ⟨hx, hb, hml, hown, hts⟩ (zX0_top l G cI _ e0 a1 a2 a3 qs ts bs cn  hv4) (cwV 0 hts gX3_way_X0_top rfl rfl rfl (by decide +kernel) ⟨Nat.le_of_ble_eq_true rfl, Nat.le_of_ble_eq_true rfl⟩) hK hP (hP.sub [1, 2, 3, 4] rfl) rfl rfl rfl hl.1 rfl (Nat.le_of_ble_eq_true rfl) dX3_way_4 ⟨Nat.le_of_ble_eq_true rfl, Nat.le_of_ble_eq_true rfl⟩ hS hA (fun H locs hP hz4 hS => ?_)
  refine lv_if_ne (tgt := 12) hx hb dX3_way_7 (by decide) (fun c7 => ?_) (fun c7 => ?_)
  · have hf := it_f c7 hf
    refine lv_iload_n hx hb dX3_way_12 rfl (lv_at hl 1 rfl) ?_
    refine lv_aload_n hx hb dX3_way_13 rfl (lv_at hl 0 rfl) ?_
    refine va_get (D := G) (ci := 3) (v := .ref e0) (C := RX3) (T := TX3) (N := 2) hx hb hts hinX3 hown hK.1 hP 0 rfl rfl 0 (by decide) w0 (fun _ h9 => h9) rfl dX3_way_14 ?_
    obtain ⟨r17, hv17, hf⟩ := bd1_s hf
    refine roVi (As := []) (rest := [.int p1]) ⟨hx, hb, hml, hown, hts⟩ (zX0_countSteps l G cI _ e0 a1 a2 a3 qs ts bs cn  hv17) (cwV 0 hts gX3_way_X0_countSteps rfl rfl rfl (by decide +kernel) ⟨Nat.le_of_ble_eq_true rfl, Nat.le_of_ble_eq_true rfl⟩) hK hP (hP.sub [1, 2, 3, 4] rfl) rfl rfl rfl hl.1 rfl (Nat.le_of_ble_eq_true rfl) dX3_way_17 ⟨Nat.le_of_ble_eq_true rfl, Nat.le_of_ble_eq_true rfl⟩ hS hA (fun H locs hP hz17 hS => ?_)
    refine lv_aload_n hx hb dX3_way_20 rfl (lv_at hl 0 rfl) ?_
    refine va_get (D := G) (ci := 3) (v := .ref e0) (C := RX3) (T := TX3) (N := 2) hx hb hts hinX3 hown hK.1 hP 0 rfl rfl 0 (by decide) w0 (fun _ h9 => h9) rfl dX3_way_21 ?_
    obtain ⟨r24, hv24, hf⟩ := bd1_s hf
    refine roVi (As := []) (rest := [.int r17, .int p1]) ⟨hx, hb, hml, hown, hts⟩ (zX0_countRuns l G cI _ e0 a1 a2 a3 qs ts bs cn  hv24) (cwV 0 hts gX3_way_X0_countRuns rfl rfl rfl (by decide +kernel) ⟨Nat.le_of_ble_eq_true rfl, Nat.le_of_ble_eq_true rfl⟩) hK hP (hP.sub [1, 2, 3, 4] rfl) rfl rfl rfl hl.1 rfl (Nat.le_of_ble_eq_true rfl) dX3_way_24 ⟨Nat.le_of_ble_eq_true rfl, Nat.le_of_ble_eq_true rfl⟩ hS hA (fun H locs hP hz24 hS => ?_)
    obtain ⟨r27, hv27, hf⟩ := bd1_s hf
    refine roSi (As := [.int p1, .int r17, .int r24]) (rest := []) ⟨hx, hb, hml, hown, hts⟩ (zX3_topOrBottom l G cI _ p1 r17 r24 hv27) (va_cwS 3 hts gX3_way_X3_topOrBottom rfl rfl rfl (by decide +kernel) ⟨Nat.le_of_ble_eq_true rfl, Nat.le_of_ble_eq_true rfl⟩) hK hP rfl hl.1 rfl (Nat.le_of_ble_eq_true rfl) dX3_way_27 ⟨Nat.le_of_ble_eq_true rfl, Nat.le_of_ble_eq_true rfl⟩ hS hA (fun H locs hP hz27 hS => ?_)
    refine qf_s (Qf := Qf) hf ?_
    rw [hQf]
    exact W.iret hx hb hr (fun t ht hW => ⟨⟨_, (), rfl, rfl, trivial⟩, hS.F ht⟩) hS.2.2 dX3_way_30
  · have hf := it_t c7 hf
    refine lv_iconst (v := (-1)) hx hb dX3_way_10 (by decide) ?_
    refine qf_s (Qf := Qf) hf ?_
    rw [hQf]
    exact W.iret hx hb hr (fun t ht hW => ⟨⟨_, (), rfl, rfl, trivial⟩, hS.F ht⟩) hS.2.2 dX3_way_11
def fX3_run (qs : Nat → Int32) (ts : Nat → Int32) (bs : Nat → Int32) (cn : Int32) (p1 : Int32) : Option (Int32) :=
  if p1 < 0 then
    some 0
  else
    bd1 (fX0_countRuns qs ts bs cn) fun r9 =>
    if r9 ≤ p1 then
      some 0
    else
      bd1 (fX0_stepsOfRun qs cn p1) fun r20 =>
      some r20
set_option maxHeartbeats 4000000 in
set_option maxRecDepth 100000 in
theorem zX3_run (l : Launch) (G : va_G) (cI : ClassId) (sz : Nat) (h e0 a1 a2 a3 r0 a4 : Nat) (qs : Nat → Int32) (ts : Nat → Int32) (bs : Nat → Int32) (cn : Int32) (mo : Nat → Int32) (p1 : Int32) {rv : Int32} (hf : fX3_run qs ts bs cn p1 = some rv) : mRi l yX3_run wsX3_run ({ frames := 2, cells := 0, slots := 0, locals := 43 }) [.ref h, .int p1] G cI [(h, .inr (3, [.ref e0, .ref r0])), (e0, .inr (0, [.ref a1, .ref a2, .ref a3, .int cn])), (a1, .inl (cI, 32, .inl qs)), (a2, .inl (cI, 33, .inl ts)), (a3, .inl (cI, 33, .inl bs)), (r0, .inr (2, [.ref a4])), (a4, .inl (cI, 201, .inl mo))] sz rv := by
  refine Met.ofW (cc := cX3_run) (maxL := 2) (ret := (some .int)) (by decide) rfl ?_
  intro p e s m args below meth c s₁ B hml hv
  obtain ⟨rfl, hsz, hP, hK⟩ := hv
  have hx := B.exec
  have hb := B.bytes
  have hr := B.returns
  have hts := atoms_spec (ws := wsX3_run) B.pre
  have hown : s.vm.findClass RX3 = some m.cls := findClass_of_methodNamed B.named
  have hlocks := B.notSynchronized
  subst hsz
  generalize hAe : va_A [] s.heap.size = A
  have hA : ∀ q : Nat, s.heap.size ≤ q → A q := fun q h => by rw [← hAe]; exact Or.inr h
  have hS : va_S A s.heap s.heap [] := va_S.rf
  have w0 := hts (.fieldLink RX3 10 "SternDesk" "hand" "LSternDesk$Expansion;") (by decide +kernel)
  have hinX3 : ∀ w ∈ u_ws RX3 TX3 2, w ∈ wsX3_run := by decide +kernel
  obtain ⟨Qf, hQf⟩ : ∃ f : Int32 → State → Prop, f = fun z => MQ below (va_Qi (fun (r : Int32) (_ : Unit) => r = z) (fun _ _ => True) A) ([.ref h, .int p1].toArray) s 0 0 A := ⟨_, rfl⟩
  suffices hgo : W p l e (headSpec wsX3_run ({ frames := 2, cells := 0, slots := 0, locals := 43 })).room s m ([.ref h, .int p1].toArray) below meth c s.heap [] 0 0 (Qf rv) (entryFrame m ([.ref h, .int p1].toArray) 2) by rw [hQf] at hgo; exact hgo
  have hl := lv_entry ([.ref h, .int p1]) (n := 2) (Nat.le_of_ble_eq_true rfl)
  rw [lg_entry_eq]
  generalize (lg_sl ([.ref h, .int p1]) ++ List.replicate (2 - (lg_sl ([.ref h, .int p1])).length) Slot.unset).toArray = ls at hl ⊢
  have hl : lv_has ls 2 [(0, .ref h), (1, .int p1)] := hl
  unfold fX3_run at hf
  refine lv_iload_n hx hb dX3_run_0 rfl (lv_at hl 1 rfl) ?_
  refine lv_if_lt (tgt := 26) hx hb dX3_run_1 (by decide) (fun c1 => ?_) (fun c1 => ?_)
  · have hf := it_t c1 hf
    refine lv_iconst (v := 0) hx hb dX3_run_26 (by decide) ?_
    refine qf_s (Qf := Qf) hf ?_
    rw [hQf]
    exact W.iret hx hb hr (fun t ht hW => ⟨⟨_, (), rfl, rfl, trivial⟩, hS.F ht⟩) hS.2.2 dX3_run_27
  · have hf := it_f c1 hf
    refine lv_iload_n hx hb dX3_run_4 rfl (lv_at hl 1 rfl) ?_
    refine lv_aload_n hx hb dX3_run_5 rfl (lv_at hl 0 rfl) ?_
    refine va_get (D := G) (ci := 3) (v := .ref e0) (C := RX3) (T := TX3) (N := 2) hx hb hts hinX3 hown hK.1 hP 0 rfl rfl 0 (by decide) w0 (fun _ h9 => h9) rfl dX3_run_6 ?_
    obtain ⟨r9, hv9, hf⟩ := bd1_s hf
    refine roVi (As := []) (rest := [.int p1]) ⟨hx, hb, hml, hown, hts⟩ (zX0_countRuns l G cI _ e0 a1 a2 a3 qs ts bs cn  hv9) (cwV 0 hts gX3_run_X0_countRuns rfl rfl rfl (by decide +kernel) ⟨Nat.le_of_ble_eq_true rfl, Nat.le_of_ble_eq_true rfl⟩) hK hP (hP.sub [1, 2, 3, 4] rfl) rfl rfl rfl hl.1 rfl (Nat.le_of_ble_eq_true rfl) dX3_run_9 ⟨Nat.le_of_ble_eq_true rfl, Nat.le_of_ble_eq_true rfl⟩ hS hA (fun H locs hP hz9 hS => ?_)
    refine lv_icmp_ge (tgt := 26) hx hb dX3_run_12 (by decide) (fun c12 => ?_) (fun c12 => ?_)
    · have hf := it_t c12 hf
      refine lv_iconst (v := 0) hx hb dX3_run_26 (by decide) ?_
      refine qf_s (Qf := Qf) hf ?_
      rw [hQf]
      exact W.iret hx hb hr (fun t ht hW => ⟨⟨_, (), rfl, rfl, trivial⟩, hS.F ht⟩) hS.2.2 dX3_run_27
    · have hf := it_f c12 hf
      refine lv_aload_n hx hb dX3_run_15 rfl (lv_at hl 0 rfl) ?_
      refine va_get (D := G) (ci := 3) (v := .ref e0) (C := RX3) (T := TX3) (N := 2) hx hb hts hinX3 hown hK.1 hP 0 rfl rfl 0 (by decide) w0 (fun _ h9 => h9) rfl dX3_run_16 ?_
      refine lv_iload_n hx hb dX3_run_19 rfl (lv_at hl 1 rfl) ?_
      obtain ⟨r20, hv20, hf⟩ := bd1_s hf
      refine roVi (As := [.int p1]) (rest := []) ⟨hx, hb, hml, hown, hts⟩ (zX0_stepsOfRun l G cI _ e0 a1 a2 a3 qs ts bs cn p1 hv20) (cwV 1 hts gX3_run_X0_stepsOfRun rfl rfl rfl (by decide +kernel) ⟨Nat.le_of_ble_eq_true rfl, Nat.le_of_ble_eq_true rfl⟩) hK hP (hP.sub [1, 2, 3, 4] rfl) rfl rfl rfl hl.1 rfl (Nat.le_of_ble_eq_true rfl) dX3_run_20 ⟨Nat.le_of_ble_eq_true rfl, Nat.le_of_ble_eq_true rfl⟩ hS hA (fun H locs hP hz20 hS => ?_)
      refine lv_goto (tgt := 27) hx hb dX3_run_23 (by decide) ?_
      refine qf_s (Qf := Qf) hf ?_
      rw [hQf]
      exact W.iret hx hb hr (fun t ht hW => ⟨⟨_, (), rfl, rfl, trivial⟩, hS.F ht⟩) hS.2.2 dX3_run_27
def fX3_go (qs : Nat → Int32) (ts : Nat → Int32) (bs : Nat → Int32) (cn : Int32) (p1 : Int32) (p2 : Int32) : Option (Int32 × (Nat → Int32) × (Nat → Int32) × (Nat → Int32) × Int32) :=
  bd1 (fX3_isWithin p1 0 1) fun r3 =>
  if r3 = 0 then
    some (0, qs, ts, bs, cn)
  else
    bd1 (fX3_isWithin p2 0 100000) fun r13 =>
    if r13 = 0 then
      some (0, qs, ts, bs, cn)
    else
      bd1 (fX0_top ts cn) fun r23 =>
      if r23 = 0 then
        some (0, qs, ts, bs, cn)
      else
        bd2 (fX0_neighbourAt ts bs cn p1) fun r36_1 r36_2 =>
        bd1 (fX0_top ts cn) fun r44 =>
        nm ((Int32.toInt64 r44) + ((Int32.toInt64 p2) * (Int32.toInt64 r36_1))) fun v57 =>
        bd1 (fX0_bottom bs cn) fun r63 =>
        nm ((Int32.toInt64 r63) + ((Int32.toInt64 p2) * (Int32.toInt64 r36_2))) fun v76 =>
        if 0 < (lg_cmp v57 100000) then
          some (0, qs, ts, bs, cn)
        else
          if (lg_cmp v76 100000) ≤ 0 then
            bd4 (fX0_expand qs ts bs cn (Int64.toInt32 v57) (Int64.toInt32 v76)) fun qs_108 ts_108 bs_108 cn_108 =>
            some (1, qs_108, ts_108, bs_108, cn_108)
          else
            some (0, qs, ts, bs, cn)
set_option maxHeartbeats 4000000 in
set_option maxRecDepth 100000 in
theorem zX3_go (l : Launch) (G : va_G) (cI : ClassId) (sz : Nat) (h e0 a1 a2 a3 r0 a4 : Nat) (qs : Nat → Int32) (ts : Nat → Int32) (bs : Nat → Int32) (cn : Int32) (mo : Nat → Int32) (p1 : Int32) (p2 : Int32) {rv : Int32} {o_qs : Nat → Int32} {o_ts : Nat → Int32} {o_bs : Nat → Int32} {o_cn : Int32} (hf : fX3_go qs ts bs cn p1 p2 = some (rv, o_qs, o_ts, o_bs, o_cn)) : mMi l yX3_go wsX3_go ({ frames := 3, cells := 1, slots := 2, locals := 70 }) [.ref h, .int p1, .int p2] G cI [(h, .inr (3, [.ref e0, .ref r0])), (e0, .inr (0, [.ref a1, .ref a2, .ref a3, .int cn])), (a1, .inl (cI, 32, .inl qs)), (a2, .inl (cI, 33, .inl ts)), (a3, .inl (cI, 33, .inl bs)), (r0, .inr (2, [.ref a4])), (a4, .inl (cI, 201, .inl mo))] sz rv [(h, .inr (3, [.ref e0, .ref r0])), (e0, .inr (0, [.ref a1, .ref a2, .ref a3, .int o_cn])), (a1, .inl (cI, 32, .inl o_qs)), (a2, .inl (cI, 33, .inl o_ts)), (a3, .inl (cI, 33, .inl o_bs)), (r0, .inr (2, [.ref a4])), (a4, .inl (cI, 201, .inl mo))] 1 2 := by
  refine Met.ofW (cc := cX3_go) (maxL := 8) (ret := (some .int)) (by decide) rfl ?_
  intro p e s m args below meth c s₁ B hml hv
  obtain ⟨rfl, hsz, hP, hK, hD0⟩ := hv
  have hx := B.exec
  have hb := B.bytes
  have hr := B.returns
  have hts := atoms_spec (ws := wsX3_go) B.pre
  have hown : s.vm.findClass RX3 = some m.cls := findClass_of_methodNamed B.named
  have hlocks := B.notSynchronized
  subst hsz
  have hD := hD0.self (sz := s.heap.size)
  generalize hAe : va_A [(h, .inr (3, [.ref e0, .ref r0])), (e0, .inr (0, [.ref a1, .ref a2, .ref a3, .int cn])), (a1, .inl (cI, 32, .inl qs)), (a2, .inl (cI, 33, .inl ts)), (a3, .inl (cI, 33, .inl bs)), (r0, .inr (2, [.ref a4])), (a4, .inl (cI, 201, .inl mo))] s.heap.size = A at hD ⊢
  have hA : ∀ q : Nat, s.heap.size ≤ q → A q := fun q h => by rw [← hAe]; exact Or.inr h
  have hS : va_S A s.heap s.heap [] := va_S.rf
  have w0 := hts (.constant RX3 27 (100000)) (by decide +kernel)
  have w1 := hts (.fieldLink RX3 10 "SternDesk" "hand" "LSternDesk$Expansion;") (by decide +kernel)
  have hinX3 : ∀ w ∈ u_ws RX3 TX3 2, w ∈ wsX3_go := by decide +kernel
  have w3 := hts (.fieldLink RX3 82 "SternDesk$Fraction" "top" "I") (by decide +kernel)
  have hinX1 : ∀ w ∈ u_ws RX1 TX1 2, w ∈ wsX3_go := by decide +kernel
  have w5 := hts (.fieldLink RX3 86 "SternDesk$Fraction" "bottom" "I") (by decide +kernel)
  have w6 := hts (.constantLong RX3 88 (100000)) (by decide +kernel)
  obtain ⟨Qf, hQf⟩ : ∃ f : (Int32 × (Nat → Int32) × (Nat → Int32) × (Nat → Int32) × Int32) → State → Prop, f = fun z => MQ below (va_Qi (fun (r : Int32) (_ : Unit) => r = z.1) (fun _ t => va_P G vwCl [(h, .inr (3, [.ref e0, .ref r0])), (e0, .inr (0, [.ref a1, .ref a2, .ref a3, .int z.2.2.2.2])), (a1, .inl (cI, 32, .inl z.2.1)), (a2, .inl (cI, 33, .inl z.2.2.1)), (a3, .inl (cI, 33, .inl z.2.2.2.1)), (r0, .inr (2, [.ref a4])), (a4, .inl (cI, 201, .inl mo))] t.heap ∧ va_D A [(h, .inr (3, [.ref e0, .ref r0])), (e0, .inr (0, [.ref a1, .ref a2, .ref a3, .int z.2.2.2.2])), (a1, .inl (cI, 32, .inl z.2.1)), (a2, .inl (cI, 33, .inl z.2.2.1)), (a3, .inl (cI, 33, .inl z.2.2.2.1)), (r0, .inr (2, [.ref a4])), (a4, .inl (cI, 201, .inl mo))]) A) ([.ref h, .int p1, .int p2].toArray) s 1 2 A := ⟨_, rfl⟩
  suffices hgo : W p l e (headSpec wsX3_go ({ frames := 3, cells := 1, slots := 2, locals := 70 })).room s m ([.ref h, .int p1, .int p2].toArray) below meth c s.heap [] 0 0 (Qf (rv, o_qs, o_ts, o_bs, o_cn)) (entryFrame m ([.ref h, .int p1, .int p2].toArray) 8) by rw [hQf] at hgo; exact hgo
  have hl := lv_entry ([.ref h, .int p1, .int p2]) (n := 8) (Nat.le_of_ble_eq_true rfl)
  rw [lg_entry_eq]
  generalize (lg_sl ([.ref h, .int p1, .int p2]) ++ List.replicate (8 - (lg_sl ([.ref h, .int p1, .int p2])).length) Slot.unset).toArray = ls at hl ⊢
  have hl : lv_has ls 8 [(0, .ref h), (1, .int p1), (2, .int p2)] := hl
  unfold fX3_go at hf
  refine lv_iload_n hx hb dX3_go_0 rfl (lv_at hl 1 rfl) ?_
  refine lv_iconst (v := 0) hx hb dX3_go_1 (by decide) ?_
  refine lv_iconst (v := 1) hx hb dX3_go_2 (by decide) ?_
  obtain ⟨r3, hv3, hf⟩ := bd1_s hf
  refine roSi (As := [.int p1, .int 0, .int 1]) (rest := []) ⟨hx, hb, hml, hown, hts⟩ (zX3_isWithin l G cI _ p1 0 1 hv3) (va_cwS 3 hts gX3_go_X3_isWithin rfl rfl rfl (by decide +kernel) ⟨Nat.le_of_ble_eq_true rfl, Nat.le_of_ble_eq_true rfl⟩) hK hP rfl hl.1 rfl (Nat.le_of_ble_eq_true rfl) dX3_go_3 ⟨Nat.le_of_ble_eq_true rfl, Nat.le_of_ble_eq_true rfl⟩ hS hA (fun H locs hP hz3 hS => ?_)
  refine lv_if_eq (tgt := 29) hx hb dX3_go_6 (by decide) (fun c6 => ?_) (fun c6 => ?_)
  · have hf := it_t c6 hf
    refine lv_iconst (v := 0) hx hb dX3_go_29 (by decide) ?_
    refine qf_s (Qf := Qf) hf ?_
    refine W.widen (k := 1) (n := 2) (Nat.le_of_ble_eq_true rfl) (Nat.le_of_ble_eq_true rfl) ?_
    have hP9 : va_P G vwCl [(h, .inr (3, [.ref e0, .ref r0])), (e0, .inr (0, [.ref a1, .ref a2, .ref a3, .int cn])), (a1, .inl (cI, 32, .inl qs)), (a2, .inl (cI, 33, .inl ts)), (a3, .inl (cI, 33, .inl bs)), (r0, .inr (2, [.ref a4])), (a4, .inl (cI, 201, .inl mo))] _ := hP.sub [0, 1, 2, 3, 4, 5, 6] rfl
    have hD9 : va_D A [(h, .inr (3, [.ref e0, .ref r0])), (e0, .inr (0, [.ref a1, .ref a2, .ref a3, .int cn])), (a1, .inl (cI, 32, .inl qs)), (a2, .inl (cI, 33, .inl ts)), (a3, .inl (cI, 33, .inl bs)), (r0, .inr (2, [.ref a4])), (a4, .inl (cI, 201, .inl mo))] := hD.sub [0, 1, 2, 3, 4, 5, 6] (by decide) rfl
    rw [hQf]
    exact W.iret hx hb hr (fun t ht hW => ⟨⟨_, (), rfl, rfl, by rw [ht]; exact hP9, hD9⟩, hS.F ht⟩) hS.2.2 dX3_go_30
  · have hf := it_f c6 hf
    refine lv_iload_n hx hb dX3_go_9 rfl (lv_at hl 2 rfl) ?_
    refine lv_iconst (v := 0) hx hb dX3_go_10 (by decide) ?_
    refine lv_ldc hx hb hown w0 dX3_go_11 ?_
    obtain ⟨r13, hv13, hf⟩ := bd1_s hf
    refine roSi (As := [.int p2, .int 0, .int 100000]) (rest := []) ⟨hx, hb, hml, hown, hts⟩ (zX3_isWithin l G cI _ p2 0 100000 hv13) (va_cwS 3 hts gX3_go_X3_isWithin rfl rfl rfl (by decide +kernel) ⟨Nat.le_of_ble_eq_true rfl, Nat.le_of_ble_eq_true rfl⟩) hK hP rfl hl.1 rfl (Nat.le_of_ble_eq_true rfl) dX3_go_13 ⟨Nat.le_of_ble_eq_true rfl, Nat.le_of_ble_eq_true rfl⟩ hS hA (fun H locs hP hz13 hS => ?_)
    refine lv_if_eq (tgt := 29) hx hb dX3_go_16 (by decide) (fun c16 => ?_) (fun c16 => ?_)
    · have hf := it_t c16 hf
      refine lv_iconst (v := 0) hx hb dX3_go_29 (by decide) ?_
      refine qf_s (Qf := Qf) hf ?_
      refine W.widen (k := 1) (n := 2) (Nat.le_of_ble_eq_true rfl) (Nat.le_of_ble_eq_true rfl) ?_
      have hP9 : va_P G vwCl [(h, .inr (3, [.ref e0, .ref r0])), (e0, .inr (0, [.ref a1, .ref a2, .ref a3, .int cn])), (a1, .inl (cI, 32, .inl qs)), (a2, .inl (cI, 33, .inl ts)), (a3, .inl (cI, 33, .inl bs)), (r0, .inr (2, [.ref a4])), (a4, .inl (cI, 201, .inl mo))] _ := hP.sub [0, 1, 2, 3, 4, 5, 6] rfl
      have hD9 : va_D A [(h, .inr (3, [.ref e0, .ref r0])), (e0, .inr (0, [.ref a1, .ref a2, .ref a3, .int cn])), (a1, .inl (cI, 32, .inl qs)), (a2, .inl (cI, 33, .inl ts)), (a3, .inl (cI, 33, .inl bs)), (r0, .inr (2, [.ref a4])), (a4, .inl (cI, 201, .inl mo))] := hD.sub [0, 1, 2, 3, 4, 5, 6] (by decide) rfl
      rw [hQf]
      exact W.iret hx hb hr (fun t ht hW => ⟨⟨_, (), rfl, rfl, by rw [ht]; exact hP9, hD9⟩, hS.F ht⟩) hS.2.2 dX3_go_30
    · have hf := it_f c16 hf
      refine lv_aload_n hx hb dX3_go_19 rfl (lv_at hl 0 rfl) ?_
      refine va_get (D := G) (ci := 3) (v := .ref e0) (C := RX3) (T := TX3) (N := 2) hx hb hts hinX3 hown hK.1 hP 0 rfl rfl 0 (by decide) w1 (fun _ h9 => h9) rfl dX3_go_20 ?_
      obtain ⟨r23, hv23, hf⟩ := bd1_s hf
      refine roVi (As := []) (rest := []) ⟨hx, hb, hml, hown, hts⟩ (zX0_top l G cI _ e0 a1 a2 a3 qs ts bs cn  hv23) (cwV 0 hts gX3_go_X0_top rfl rfl rfl (by decide +kernel) ⟨Nat.le_of_ble_eq_true rfl, Nat.le_of_ble_eq_true rfl⟩) hK hP (hP.sub [1, 2, 3, 4] rfl) rfl rfl rfl hl.1 rfl (Nat.le_of_ble_eq_true rfl) dX3_go_23 ⟨Nat.le_of_ble_eq_true rfl, Nat.le_of_ble_eq_true rfl⟩ hS hA (fun H locs hP hz23 hS => ?_)
      refine lv_if_ne (tgt := 31) hx hb dX3_go_26 (by decide) (fun c26 => ?_) (fun c26 => ?_)
      · have hf := it_f c26 hf
        refine lv_aload_n hx hb dX3_go_31 rfl (lv_at hl 0 rfl) ?_
        refine va_get (D := G) (ci := 3) (v := .ref e0) (C := RX3) (T := TX3) (N := 2) hx hb hts hinX3 hown hK.1 hP 0 rfl rfl 0 (by decide) w1 (fun _ h9 => h9) rfl dX3_go_32 ?_
        refine lv_iload_n hx hb dX3_go_35 rfl (lv_at hl 1 rfl) ?_
        obtain ⟨r36_1, r36_2, hv36, hf⟩ := bd2_s hf
        refine ncVr (As := [.int p1]) (rest := []) (wr := [(h, .inr (3, [.ref e0, .ref r0])), (r0, .inr (2, [.ref a4])), (a4, .inl (cI, 201, .inl mo))]) (wc := [(e0, .inr (0, [.ref a1, .ref a2, .ref a3, .int cn])), (a1, .inl (cI, 32, .inl qs)), (a2, .inl (cI, 33, .inl ts)), (a3, .inl (cI, 33, .inl bs))]) ⟨hx, hb, hml, hown, hts⟩ (zX0_neighbourAt l G cI _ e0 a1 a2 a3 qs ts bs cn p1 hv36) (cwV 1 hts gX3_go_X0_neighbourAt rfl rfl rfl (by decide +kernel) ⟨Nat.le_of_ble_eq_true rfl, Nat.le_of_ble_eq_true rfl⟩) hK hP hD [1, 2, 3, 4] [0, 5, 6] rfl rfl rfl (by decide) (by decide) (by decide) rfl rfl rfl hl.1 rfl (Nat.le_of_ble_eq_true rfl) dX3_go_36 ⟨Nat.le_of_ble_eq_true rfl, Nat.le_of_ble_eq_true rfl⟩ hS hA (fun q36 H locs hP hD hz36 hS => ?_)
        have hP : va_P G vwCl [(h, .inr (3, [.ref e0, .ref r0])), (e0, .inr (0, [.ref a1, .ref a2, .ref a3, .int cn])), (a1, .inl (cI, 32, .inl qs)), (a2, .inl (cI, 33, .inl ts)), (a3, .inl (cI, 33, .inl bs)), (r0, .inr (2, [.ref a4])), (a4, .inl (cI, 201, .inl mo)), (q36, .inr (1, [.int r36_1, .int r36_2]))] H := hP.sub [0, 3, 4, 5, 6, 1, 2, 7] rfl
        have hD : va_D A [(h, .inr (3, [.ref e0, .ref r0])), (e0, .inr (0, [.ref a1, .ref a2, .ref a3, .int cn])), (a1, .inl (cI, 32, .inl qs)), (a2, .inl (cI, 33, .inl ts)), (a3, .inl (cI, 33, .inl bs)), (r0, .inr (2, [.ref a4])), (a4, .inl (cI, 201, .inl mo)), (q36, .inr (1, [.int r36_1, .int r36_2]))] := hD.sub [0, 3, 4, 5, 6, 1, 2, 7] (by decide) rfl
        refine lv_astore_n (lv' := [(3, .ref q36), (0, .ref h), (1, .int p1), (2, .int p2)]) hx hb dX3_go_39 rfl hl (by decide) rfl (fun ls hl => ?_)
        refine lv_aload_n hx hb dX3_go_40 rfl (lv_at hl 1 rfl) ?_
        refine va_get (D := G) (ci := 3) (v := .ref e0) (C := RX3) (T := TX3) (N := 2) hx hb hts hinX3 hown hK.1 hP 0 rfl rfl 0 (by decide) w1 (fun _ h9 => h9) rfl dX3_go_41 ?_
        obtain ⟨r44, hv44, hf⟩ := bd1_s hf
        refine roVi (As := []) (rest := []) ⟨hx, hb, hml, hown, hts⟩ (zX0_top l G cI _ e0 a1 a2 a3 qs ts bs cn  hv44) (cwV 0 hts gX3_go_X0_top rfl rfl rfl (by decide +kernel) ⟨Nat.le_of_ble_eq_true rfl, Nat.le_of_ble_eq_true rfl⟩) hK hP (hP.sub [1, 2, 3, 4] rfl) rfl rfl rfl hl.1 rfl (Nat.le_of_ble_eq_true rfl) dX3_go_44 ⟨Nat.le_of_ble_eq_true rfl, Nat.le_of_ble_eq_true rfl⟩ hS hA (fun H locs hP hz44 hS => ?_)
        refine lv_i2l hx hb dX3_go_47 rfl ?_
        refine lv_iload_n hx hb dX3_go_48 rfl (lv_at hl 3 rfl) ?_
        refine lv_i2l hx hb dX3_go_49 rfl ?_
        refine lv_aload_n hx hb dX3_go_50 rfl (lv_at hl 0 rfl) ?_
        refine va_get (D := G) (ci := 1) (v := .int r36_1) (C := RX1) (T := TX1) (N := 2) hx hb hts hinX1 hown hK.1 hP 7 rfl rfl 0 (by decide) w3 (fun _ h9 => h9) rfl dX3_go_51 ?_
        refine lv_i2l hx hb dX3_go_54 rfl ?_
        refine lv_lmul hx hb dX3_go_55 ?_
        refine lv_ladd hx hb dX3_go_56 ?_
        refine lv_topl (fun v57 ev57 => ?_)
        have hf := nm_s ev57 hf
        refine lv_lstore (lv' := [(4, .long v57), (3, .ref q36), (0, .ref h), (1, .int p1), (2, .int p2)]) hx hb dX3_go_57 hl (by decide) rfl (fun ls hl => ?_)
        refine lv_aload_n hx hb dX3_go_59 rfl (lv_at hl 2 rfl) ?_
        refine va_get (D := G) (ci := 3) (v := .ref e0) (C := RX3) (T := TX3) (N := 2) hx hb hts hinX3 hown hK.1 hP 0 rfl rfl 0 (by decide) w1 (fun _ h9 => h9) rfl dX3_go_60 ?_
        obtain ⟨r63, hv63, hf⟩ := bd1_s hf
        refine roVi (As := []) (rest := []) ⟨hx, hb, hml, hown, hts⟩ (zX0_bottom l G cI _ e0 a1 a2 a3 qs ts bs cn  hv63) (cwV 0 hts gX3_go_X0_bottom rfl rfl rfl (by decide +kernel) ⟨Nat.le_of_ble_eq_true rfl, Nat.le_of_ble_eq_true rfl⟩) hK hP (hP.sub [1, 2, 3, 4] rfl) rfl rfl rfl hl.1 rfl (Nat.le_of_ble_eq_true rfl) dX3_go_63 ⟨Nat.le_of_ble_eq_true rfl, Nat.le_of_ble_eq_true rfl⟩ hS hA (fun H locs hP hz63 hS => ?_)
        refine lv_i2l hx hb dX3_go_66 rfl ?_
        refine lv_iload_n hx hb dX3_go_67 rfl (lv_at hl 4 rfl) ?_
        refine lv_i2l hx hb dX3_go_68 rfl ?_
        refine lv_aload_n hx hb dX3_go_69 rfl (lv_at hl 1 rfl) ?_
        refine va_get (D := G) (ci := 1) (v := .int r36_2) (C := RX1) (T := TX1) (N := 2) hx hb hts hinX1 hown hK.1 hP 7 rfl rfl 1 (by decide) w5 (fun _ h9 => h9) rfl dX3_go_70 ?_
        refine lv_i2l hx hb dX3_go_73 rfl ?_
        refine lv_lmul hx hb dX3_go_74 ?_
        refine lv_ladd hx hb dX3_go_75 ?_
        refine lv_topl (fun v76 ev76 => ?_)
        have hf := nm_s ev76 hf
        refine lv_lstore (lv' := [(6, .long v76), (4, .long v57), (3, .ref q36), (0, .ref h), (1, .int p1), (2, .int p2)]) hx hb dX3_go_76 hl (by decide) rfl (fun ls hl => ?_)
        refine lv_lload hx hb dX3_go_78 (lv_at hl 1 rfl) ?_
        refine lv_ldc2 hx hb hown w6 dX3_go_80 ?_
        refine W.lcmp hx hb dX3_go_83 ?_
        refine lv_if_gt (tgt := 96) hx hb dX3_go_84 (by decide) (fun c84 => ?_) (fun c84 => ?_)
        · have hf := it_t c84 hf
          refine lv_iconst (v := 0) hx hb dX3_go_96 (by decide) ?_
          refine qf_s (Qf := Qf) hf ?_
          refine W.widen (k := 1) (n := 2) (Nat.le_of_ble_eq_true rfl) (Nat.le_of_ble_eq_true rfl) ?_
          have hP9 : va_P G vwCl [(h, .inr (3, [.ref e0, .ref r0])), (e0, .inr (0, [.ref a1, .ref a2, .ref a3, .int cn])), (a1, .inl (cI, 32, .inl qs)), (a2, .inl (cI, 33, .inl ts)), (a3, .inl (cI, 33, .inl bs)), (r0, .inr (2, [.ref a4])), (a4, .inl (cI, 201, .inl mo))] _ := hP.sub [0, 1, 2, 3, 4, 5, 6] rfl
          have hD9 : va_D A [(h, .inr (3, [.ref e0, .ref r0])), (e0, .inr (0, [.ref a1, .ref a2, .ref a3, .int cn])), (a1, .inl (cI, 32, .inl qs)), (a2, .inl (cI, 33, .inl ts)), (a3, .inl (cI, 33, .inl bs)), (r0, .inr (2, [.ref a4])), (a4, .inl (cI, 201, .inl mo))] := hD.sub [0, 1, 2, 3, 4, 5, 6] (by decide) rfl
          rw [hQf]
          exact W.iret hx hb hr (fun t ht hW => ⟨⟨_, (), rfl, rfl, by rw [ht]; exact hP9, hD9⟩, hS.F ht⟩) hS.2.2 dX3_go_97
        · have hf := it_f c84 hf
          refine lv_lload hx hb dX3_go_87 (lv_at hl 0 rfl) ?_
          refine lv_ldc2 hx hb hown w6 dX3_go_89 ?_
          refine W.lcmp hx hb dX3_go_92 ?_
          refine lv_if_le (tgt := 98) hx hb dX3_go_93 (by decide) (fun c93 => ?_) (fun c93 => ?_)
          · have hf := it_t c93 hf
            refine lv_aload_n hx hb dX3_go_98 rfl (lv_at hl 3 rfl) ?_
            refine va_get (D := G) (ci := 3) (v := .ref e0) (C := RX3) (T := TX3) (N := 2) hx hb hts hinX3 hown hK.1 hP 0 rfl rfl 0 (by decide) w1 (fun _ h9 => h9) rfl dX3_go_99 ?_
            refine lv_lload hx hb dX3_go_102 (lv_at hl 1 rfl) ?_
            refine lv_l2i hx hb dX3_go_104 rfl ?_
            refine lv_lload hx hb dX3_go_105 (lv_at hl 0 rfl) ?_
            refine lv_l2i hx hb dX3_go_107 rfl ?_
            obtain ⟨qs_108, ts_108, bs_108, cn_108, hv108, hf⟩ := bd4_s hf
            refine mcVv (As := [.int (Int64.toInt32 v57), .int (Int64.toInt32 v76)]) (rest := []) (wr := [(h, .inr (3, [.ref e0, .ref r0])), (r0, .inr (2, [.ref a4])), (a4, .inl (cI, 201, .inl mo)), (q36, .inr (1, [.int r36_1, .int r36_2]))]) (wc := [(e0, .inr (0, [.ref a1, .ref a2, .ref a3, .int cn])), (a1, .inl (cI, 32, .inl qs)), (a2, .inl (cI, 33, .inl ts)), (a3, .inl (cI, 33, .inl bs))]) ⟨hx, hb, hml, hown, hts⟩ (zX0_expand l G cI _ e0 a1 a2 a3 qs ts bs cn (Int64.toInt32 v57) (Int64.toInt32 v76) hv108) (cwV 2 hts gX3_go_X0_expand rfl rfl rfl (by decide +kernel) ⟨Nat.le_of_ble_eq_true rfl, Nat.le_of_ble_eq_true rfl⟩) hK hP hD [1, 2, 3, 4] [0, 5, 6, 7] rfl rfl rfl (by decide) (by decide) (by decide) rfl rfl rfl hl.1 rfl (Nat.le_of_ble_eq_true rfl) dX3_go_108 ⟨Nat.le_of_ble_eq_true rfl, Nat.le_of_ble_eq_true rfl⟩ hS hA (fun H locs hP hD hz108 hS => ?_)
            have hP : va_P G vwCl [(h, .inr (3, [.ref e0, .ref r0])), (e0, .inr (0, [.ref a1, .ref a2, .ref a3, .int cn_108])), (a1, .inl (cI, 32, .inl qs_108)), (a2, .inl (cI, 33, .inl ts_108)), (a3, .inl (cI, 33, .inl bs_108)), (r0, .inr (2, [.ref a4])), (a4, .inl (cI, 201, .inl mo)), (q36, .inr (1, [.int r36_1, .int r36_2]))] H := hP.sub [0, 4, 5, 6, 7, 1, 2, 3] rfl
            have hD : va_D A [(h, .inr (3, [.ref e0, .ref r0])), (e0, .inr (0, [.ref a1, .ref a2, .ref a3, .int cn_108])), (a1, .inl (cI, 32, .inl qs_108)), (a2, .inl (cI, 33, .inl ts_108)), (a3, .inl (cI, 33, .inl bs_108)), (r0, .inr (2, [.ref a4])), (a4, .inl (cI, 201, .inl mo)), (q36, .inr (1, [.int r36_1, .int r36_2]))] := hD.sub [0, 4, 5, 6, 7, 1, 2, 3] (by decide) rfl
            refine lv_iconst (v := 1) hx hb dX3_go_111 (by decide) ?_
            refine qf_s (Qf := Qf) hf ?_
            refine W.widen (k := 1) (n := 2) (Nat.le_of_ble_eq_true rfl) (Nat.le_of_ble_eq_true rfl) ?_
            have hP9 : va_P G vwCl [(h, .inr (3, [.ref e0, .ref r0])), (e0, .inr (0, [.ref a1, .ref a2, .ref a3, .int cn_108])), (a1, .inl (cI, 32, .inl qs_108)), (a2, .inl (cI, 33, .inl ts_108)), (a3, .inl (cI, 33, .inl bs_108)), (r0, .inr (2, [.ref a4])), (a4, .inl (cI, 201, .inl mo))] _ := hP.sub [0, 1, 2, 3, 4, 5, 6] rfl
            have hD9 : va_D A [(h, .inr (3, [.ref e0, .ref r0])), (e0, .inr (0, [.ref a1, .ref a2, .ref a3, .int cn_108])), (a1, .inl (cI, 32, .inl qs_108)), (a2, .inl (cI, 33, .inl ts_108)), (a3, .inl (cI, 33, .inl bs_108)), (r0, .inr (2, [.ref a4])), (a4, .inl (cI, 201, .inl mo))] := hD.sub [0, 1, 2, 3, 4, 5, 6] (by decide) rfl
            rw [hQf]
            exact W.iret hx hb hr (fun t ht hW => ⟨⟨_, (), rfl, rfl, by rw [ht]; exact hP9, hD9⟩, hS.F ht⟩) hS.2.2 dX3_go_112
          · have hf := it_f c93 hf
            refine lv_iconst (v := 0) hx hb dX3_go_96 (by decide) ?_
            refine qf_s (Qf := Qf) hf ?_
            refine W.widen (k := 1) (n := 2) (Nat.le_of_ble_eq_true rfl) (Nat.le_of_ble_eq_true rfl) ?_
            have hP9 : va_P G vwCl [(h, .inr (3, [.ref e0, .ref r0])), (e0, .inr (0, [.ref a1, .ref a2, .ref a3, .int cn])), (a1, .inl (cI, 32, .inl qs)), (a2, .inl (cI, 33, .inl ts)), (a3, .inl (cI, 33, .inl bs)), (r0, .inr (2, [.ref a4])), (a4, .inl (cI, 201, .inl mo))] _ := hP.sub [0, 1, 2, 3, 4, 5, 6] rfl
            have hD9 : va_D A [(h, .inr (3, [.ref e0, .ref r0])), (e0, .inr (0, [.ref a1, .ref a2, .ref a3, .int cn])), (a1, .inl (cI, 32, .inl qs)), (a2, .inl (cI, 33, .inl ts)), (a3, .inl (cI, 33, .inl bs)), (r0, .inr (2, [.ref a4])), (a4, .inl (cI, 201, .inl mo))] := hD.sub [0, 1, 2, 3, 4, 5, 6] (by decide) rfl
            rw [hQf]
            exact W.iret hx hb hr (fun t ht hW => ⟨⟨_, (), rfl, rfl, by rw [ht]; exact hP9, hD9⟩, hS.F ht⟩) hS.2.2 dX3_go_97
      · have hf := it_t c26 hf
        refine lv_iconst (v := 0) hx hb dX3_go_29 (by decide) ?_
        refine qf_s (Qf := Qf) hf ?_
        refine W.widen (k := 1) (n := 2) (Nat.le_of_ble_eq_true rfl) (Nat.le_of_ble_eq_true rfl) ?_
        have hP9 : va_P G vwCl [(h, .inr (3, [.ref e0, .ref r0])), (e0, .inr (0, [.ref a1, .ref a2, .ref a3, .int cn])), (a1, .inl (cI, 32, .inl qs)), (a2, .inl (cI, 33, .inl ts)), (a3, .inl (cI, 33, .inl bs)), (r0, .inr (2, [.ref a4])), (a4, .inl (cI, 201, .inl mo))] _ := hP.sub [0, 1, 2, 3, 4, 5, 6] rfl
        have hD9 : va_D A [(h, .inr (3, [.ref e0, .ref r0])), (e0, .inr (0, [.ref a1, .ref a2, .ref a3, .int cn])), (a1, .inl (cI, 32, .inl qs)), (a2, .inl (cI, 33, .inl ts)), (a3, .inl (cI, 33, .inl bs)), (r0, .inr (2, [.ref a4])), (a4, .inl (cI, 201, .inl mo))] := hD.sub [0, 1, 2, 3, 4, 5, 6] (by decide) rfl
        rw [hQf]
        exact W.iret hx hb hr (fun t ht hW => ⟨⟨_, (), rfl, rfl, by rw [ht]; exact hP9, hD9⟩, hS.F ht⟩) hS.2.2 dX3_go_30
def fX3_up (qs : Nat → Int32) (ts : Nat → Int32) (bs : Nat → Int32) (cn : Int32) : Option (Int32 × (Nat → Int32) × (Nat → Int32) × (Nat → Int32) × Int32) :=
  bd1 (fX0_countRuns qs ts bs cn) fun r4 =>
  if r4 = 0 then
    some (0, qs, ts, bs, cn)
  else
    bd1 (fX0_top ts cn) fun r20 =>
    bd1 (fX0_topBefore ts cn) fun r27 =>
    bd1 (fX0_bottom bs cn) fun r35 =>
    bd1 (fX0_bottomBefore bs cn) fun r42 =>
    bd4 (fX0_expand qs ts bs cn (r20 - r27) (r35 - r42)) fun qs_46 ts_46 bs_46 cn_46 =>
    some (1, qs_46, ts_46, bs_46, cn_46)
set_option maxHeartbeats 4000000 in
set_option maxRecDepth 100000 in
theorem zX3_up (l : Launch) (G : va_G) (cI : ClassId) (sz : Nat) (h e0 a1 a2 a3 r0 a4 : Nat) (qs : Nat → Int32) (ts : Nat → Int32) (bs : Nat → Int32) (cn : Int32) (mo : Nat → Int32) {rv : Int32} {o_qs : Nat → Int32} {o_ts : Nat → Int32} {o_bs : Nat → Int32} {o_cn : Int32} (hf : fX3_up qs ts bs cn = some (rv, o_qs, o_ts, o_bs, o_cn)) : mMi l yX3_up wsX3_up ({ frames := 3, cells := 0, slots := 0, locals := 70 }) [.ref h] G cI [(h, .inr (3, [.ref e0, .ref r0])), (e0, .inr (0, [.ref a1, .ref a2, .ref a3, .int cn])), (a1, .inl (cI, 32, .inl qs)), (a2, .inl (cI, 33, .inl ts)), (a3, .inl (cI, 33, .inl bs)), (r0, .inr (2, [.ref a4])), (a4, .inl (cI, 201, .inl mo))] sz rv [(h, .inr (3, [.ref e0, .ref r0])), (e0, .inr (0, [.ref a1, .ref a2, .ref a3, .int o_cn])), (a1, .inl (cI, 32, .inl o_qs)), (a2, .inl (cI, 33, .inl o_ts)), (a3, .inl (cI, 33, .inl o_bs)), (r0, .inr (2, [.ref a4])), (a4, .inl (cI, 201, .inl mo))] 0 0 := by
  refine Met.ofW (cc := cX3_up) (maxL := 1) (ret := (some .int)) (by decide) rfl ?_
  intro p e s m args below meth c s₁ B hml hv
  obtain ⟨rfl, hsz, hP, hK, hD0⟩ := hv
  have hx := B.exec
  have hb := B.bytes
  have hr := B.returns
  have hts := atoms_spec (ws := wsX3_up) B.pre
  have hown : s.vm.findClass RX3 = some m.cls := findClass_of_methodNamed B.named
  have hlocks := B.notSynchronized
  subst hsz
  have hD := hD0.self (sz := s.heap.size)
  generalize hAe : va_A [(h, .inr (3, [.ref e0, .ref r0])), (e0, .inr (0, [.ref a1, .ref a2, .ref a3, .int cn])), (a1, .inl (cI, 32, .inl qs)), (a2, .inl (cI, 33, .inl ts)), (a3, .inl (cI, 33, .inl bs)), (r0, .inr (2, [.ref a4])), (a4, .inl (cI, 201, .inl mo))] s.heap.size = A at hD ⊢
  have hA : ∀ q : Nat, s.heap.size ≤ q → A q := fun q h => by rw [← hAe]; exact Or.inr h
  have hS : va_S A s.heap s.heap [] := va_S.rf
  have w0 := hts (.fieldLink RX3 10 "SternDesk" "hand" "LSternDesk$Expansion;") (by decide +kernel)
  have hinX3 : ∀ w ∈ u_ws RX3 TX3 2, w ∈ wsX3_up := by decide +kernel
  obtain ⟨Qf, hQf⟩ : ∃ f : (Int32 × (Nat → Int32) × (Nat → Int32) × (Nat → Int32) × Int32) → State → Prop, f = fun z => MQ below (va_Qi (fun (r : Int32) (_ : Unit) => r = z.1) (fun _ t => va_P G vwCl [(h, .inr (3, [.ref e0, .ref r0])), (e0, .inr (0, [.ref a1, .ref a2, .ref a3, .int z.2.2.2.2])), (a1, .inl (cI, 32, .inl z.2.1)), (a2, .inl (cI, 33, .inl z.2.2.1)), (a3, .inl (cI, 33, .inl z.2.2.2.1)), (r0, .inr (2, [.ref a4])), (a4, .inl (cI, 201, .inl mo))] t.heap ∧ va_D A [(h, .inr (3, [.ref e0, .ref r0])), (e0, .inr (0, [.ref a1, .ref a2, .ref a3, .int z.2.2.2.2])), (a1, .inl (cI, 32, .inl z.2.1)), (a2, .inl (cI, 33, .inl z.2.2.1)), (a3, .inl (cI, 33, .inl z.2.2.2.1)), (r0, .inr (2, [.ref a4])), (a4, .inl (cI, 201, .inl mo))]) A) ([.ref h].toArray) s 0 0 A := ⟨_, rfl⟩
  suffices hgo : W p l e (headSpec wsX3_up ({ frames := 3, cells := 0, slots := 0, locals := 70 })).room s m ([.ref h].toArray) below meth c s.heap [] 0 0 (Qf (rv, o_qs, o_ts, o_bs, o_cn)) (entryFrame m ([.ref h].toArray) 1) by rw [hQf] at hgo; exact hgo
  have hl := lv_entry ([.ref h]) (n := 1) (Nat.le_of_ble_eq_true rfl)
  rw [lg_entry_eq]
  generalize (lg_sl ([.ref h]) ++ List.replicate (1 - (lg_sl ([.ref h])).length) Slot.unset).toArray = ls at hl ⊢
  have hl : lv_has ls 1 [(0, .ref h)] := hl
  unfold fX3_up at hf
  refine lv_aload_n hx hb dX3_up_0 rfl (lv_at hl 0 rfl) ?_
  refine va_get (D := G) (ci := 3) (v := .ref e0) (C := RX3) (T := TX3) (N := 2) hx hb hts hinX3 hown hK.1 hP 0 rfl rfl 0 (by decide) w0 (fun _ h9 => h9) rfl dX3_up_1 ?_
  obtain ⟨r4, hv4, hf⟩ := bd1_s hf
  refine roVi (As := []) (rest := []) ⟨hx, hb, hml, hown, hts⟩ (zX0_countRuns l G cI _ e0 a1 a2 a3 qs ts bs cn  hv4) (cwV 0 hts gX3_up_X0_countRuns rfl rfl rfl (by decide +kernel) ⟨Nat.le_of_ble_eq_true rfl, Nat.le_of_ble_eq_true rfl⟩) hK hP (hP.sub [1, 2, 3, 4] rfl) rfl rfl rfl hl.1 rfl (Nat.le_of_ble_eq_true rfl) dX3_up_4 ⟨Nat.le_of_ble_eq_true rfl, Nat.le_of_ble_eq_true rfl⟩ hS hA (fun H locs hP hz4 hS => ?_)
  refine lv_if_ne (tgt := 12) hx hb dX3_up_7 (by decide) (fun c7 => ?_) (fun c7 => ?_)
  · have hf := it_f c7 hf
    refine lv_aload_n hx hb dX3_up_12 rfl (lv_at hl 0 rfl) ?_
    refine va_get (D := G) (ci := 3) (v := .ref e0) (C := RX3) (T := TX3) (N := 2) hx hb hts hinX3 hown hK.1 hP 0 rfl rfl 0 (by decide) w0 (fun _ h9 => h9) rfl dX3_up_13 ?_
    refine lv_aload_n hx hb dX3_up_16 rfl (lv_at hl 0 rfl) ?_
    refine va_get (D := G) (ci := 3) (v := .ref e0) (C := RX3) (T := TX3) (N := 2) hx hb hts hinX3 hown hK.1 hP 0 rfl rfl 0 (by decide) w0 (fun _ h9 => h9) rfl dX3_up_17 ?_
    obtain ⟨r20, hv20, hf⟩ := bd1_s hf
    refine roVi (As := []) (rest := [.ref e0]) ⟨hx, hb, hml, hown, hts⟩ (zX0_top l G cI _ e0 a1 a2 a3 qs ts bs cn  hv20) (cwV 0 hts gX3_up_X0_top rfl rfl rfl (by decide +kernel) ⟨Nat.le_of_ble_eq_true rfl, Nat.le_of_ble_eq_true rfl⟩) hK hP (hP.sub [1, 2, 3, 4] rfl) rfl rfl rfl hl.1 rfl (Nat.le_of_ble_eq_true rfl) dX3_up_20 ⟨Nat.le_of_ble_eq_true rfl, Nat.le_of_ble_eq_true rfl⟩ hS hA (fun H locs hP hz20 hS => ?_)
    refine lv_aload_n hx hb dX3_up_23 rfl (lv_at hl 0 rfl) ?_
    refine va_get (D := G) (ci := 3) (v := .ref e0) (C := RX3) (T := TX3) (N := 2) hx hb hts hinX3 hown hK.1 hP 0 rfl rfl 0 (by decide) w0 (fun _ h9 => h9) rfl dX3_up_24 ?_
    obtain ⟨r27, hv27, hf⟩ := bd1_s hf
    refine roVi (As := []) (rest := [.int r20, .ref e0]) ⟨hx, hb, hml, hown, hts⟩ (zX0_topBefore l G cI _ e0 a1 a2 a3 qs ts bs cn  hv27) (cwV 0 hts gX3_up_X0_topBefore rfl rfl rfl (by decide +kernel) ⟨Nat.le_of_ble_eq_true rfl, Nat.le_of_ble_eq_true rfl⟩) hK hP (hP.sub [1, 2, 3, 4] rfl) rfl rfl rfl hl.1 rfl (Nat.le_of_ble_eq_true rfl) dX3_up_27 ⟨Nat.le_of_ble_eq_true rfl, Nat.le_of_ble_eq_true rfl⟩ hS hA (fun H locs hP hz27 hS => ?_)
    refine lv_isub hx hb dX3_up_30 ?_
    refine lv_aload_n hx hb dX3_up_31 rfl (lv_at hl 0 rfl) ?_
    refine va_get (D := G) (ci := 3) (v := .ref e0) (C := RX3) (T := TX3) (N := 2) hx hb hts hinX3 hown hK.1 hP 0 rfl rfl 0 (by decide) w0 (fun _ h9 => h9) rfl dX3_up_32 ?_
    obtain ⟨r35, hv35, hf⟩ := bd1_s hf
    refine roVi (As := []) (rest := [.int (r20 - r27), .ref e0]) ⟨hx, hb, hml, hown, hts⟩ (zX0_bottom l G cI _ e0 a1 a2 a3 qs ts bs cn  hv35) (cwV 0 hts gX3_up_X0_bottom rfl rfl rfl (by decide +kernel) ⟨Nat.le_of_ble_eq_true rfl, Nat.le_of_ble_eq_true rfl⟩) hK hP (hP.sub [1, 2, 3, 4] rfl) rfl rfl rfl hl.1 rfl (Nat.le_of_ble_eq_true rfl) dX3_up_35 ⟨Nat.le_of_ble_eq_true rfl, Nat.le_of_ble_eq_true rfl⟩ hS hA (fun H locs hP hz35 hS => ?_)
    refine lv_aload_n hx hb dX3_up_38 rfl (lv_at hl 0 rfl) ?_
    refine va_get (D := G) (ci := 3) (v := .ref e0) (C := RX3) (T := TX3) (N := 2) hx hb hts hinX3 hown hK.1 hP 0 rfl rfl 0 (by decide) w0 (fun _ h9 => h9) rfl dX3_up_39 ?_
    obtain ⟨r42, hv42, hf⟩ := bd1_s hf
    refine roVi (As := []) (rest := [.int r35, .int (r20 - r27), .ref e0]) ⟨hx, hb, hml, hown, hts⟩ (zX0_bottomBefore l G cI _ e0 a1 a2 a3 qs ts bs cn  hv42) (cwV 0 hts gX3_up_X0_bottomBefore rfl rfl rfl (by decide +kernel) ⟨Nat.le_of_ble_eq_true rfl, Nat.le_of_ble_eq_true rfl⟩) hK hP (hP.sub [1, 2, 3, 4] rfl) rfl rfl rfl hl.1 rfl (Nat.le_of_ble_eq_true rfl) dX3_up_42 ⟨Nat.le_of_ble_eq_true rfl, Nat.le_of_ble_eq_true rfl⟩ hS hA (fun H locs hP hz42 hS => ?_)
    refine lv_isub hx hb dX3_up_45 ?_
    obtain ⟨qs_46, ts_46, bs_46, cn_46, hv46, hf⟩ := bd4_s hf
    refine mcVv (As := [.int (r20 - r27), .int (r35 - r42)]) (rest := []) (wr := [(h, .inr (3, [.ref e0, .ref r0])), (r0, .inr (2, [.ref a4])), (a4, .inl (cI, 201, .inl mo))]) (wc := [(e0, .inr (0, [.ref a1, .ref a2, .ref a3, .int cn])), (a1, .inl (cI, 32, .inl qs)), (a2, .inl (cI, 33, .inl ts)), (a3, .inl (cI, 33, .inl bs))]) ⟨hx, hb, hml, hown, hts⟩ (zX0_expand l G cI _ e0 a1 a2 a3 qs ts bs cn (r20 - r27) (r35 - r42) hv46) (cwV 2 hts gX3_up_X0_expand rfl rfl rfl (by decide +kernel) ⟨Nat.le_of_ble_eq_true rfl, Nat.le_of_ble_eq_true rfl⟩) hK hP hD [1, 2, 3, 4] [0, 5, 6] rfl rfl rfl (by decide) (by decide) (by decide) rfl rfl rfl hl.1 rfl (Nat.le_of_ble_eq_true rfl) dX3_up_46 ⟨Nat.le_of_ble_eq_true rfl, Nat.le_of_ble_eq_true rfl⟩ hS hA (fun H locs hP hD hz46 hS => ?_)
    have hP : va_P G vwCl [(h, .inr (3, [.ref e0, .ref r0])), (e0, .inr (0, [.ref a1, .ref a2, .ref a3, .int cn_46])), (a1, .inl (cI, 32, .inl qs_46)), (a2, .inl (cI, 33, .inl ts_46)), (a3, .inl (cI, 33, .inl bs_46)), (r0, .inr (2, [.ref a4])), (a4, .inl (cI, 201, .inl mo))] H := hP.sub [0, 3, 4, 5, 6, 1, 2] rfl
    have hD : va_D A [(h, .inr (3, [.ref e0, .ref r0])), (e0, .inr (0, [.ref a1, .ref a2, .ref a3, .int cn_46])), (a1, .inl (cI, 32, .inl qs_46)), (a2, .inl (cI, 33, .inl ts_46)), (a3, .inl (cI, 33, .inl bs_46)), (r0, .inr (2, [.ref a4])), (a4, .inl (cI, 201, .inl mo))] := hD.sub [0, 3, 4, 5, 6, 1, 2] (by decide) rfl
    refine lv_iconst (v := 1) hx hb dX3_up_49 (by decide) ?_
    refine qf_s (Qf := Qf) hf ?_
    have hP9 : va_P G vwCl [(h, .inr (3, [.ref e0, .ref r0])), (e0, .inr (0, [.ref a1, .ref a2, .ref a3, .int cn_46])), (a1, .inl (cI, 32, .inl qs_46)), (a2, .inl (cI, 33, .inl ts_46)), (a3, .inl (cI, 33, .inl bs_46)), (r0, .inr (2, [.ref a4])), (a4, .inl (cI, 201, .inl mo))] _ := hP.sub [0, 1, 2, 3, 4, 5, 6] rfl
    have hD9 : va_D A [(h, .inr (3, [.ref e0, .ref r0])), (e0, .inr (0, [.ref a1, .ref a2, .ref a3, .int cn_46])), (a1, .inl (cI, 32, .inl qs_46)), (a2, .inl (cI, 33, .inl ts_46)), (a3, .inl (cI, 33, .inl bs_46)), (r0, .inr (2, [.ref a4])), (a4, .inl (cI, 201, .inl mo))] := hD.sub [0, 1, 2, 3, 4, 5, 6] (by decide) rfl
    rw [hQf]
    exact W.iret hx hb hr (fun t ht hW => ⟨⟨_, (), rfl, rfl, by rw [ht]; exact hP9, hD9⟩, hS.F ht⟩) hS.2.2 dX3_up_50
  · have hf := it_t c7 hf
    refine lv_iconst (v := 0) hx hb dX3_up_10 (by decide) ?_
    refine qf_s (Qf := Qf) hf ?_
    have hP9 : va_P G vwCl [(h, .inr (3, [.ref e0, .ref r0])), (e0, .inr (0, [.ref a1, .ref a2, .ref a3, .int cn])), (a1, .inl (cI, 32, .inl qs)), (a2, .inl (cI, 33, .inl ts)), (a3, .inl (cI, 33, .inl bs)), (r0, .inr (2, [.ref a4])), (a4, .inl (cI, 201, .inl mo))] _ := hP.sub [0, 1, 2, 3, 4, 5, 6] rfl
    have hD9 : va_D A [(h, .inr (3, [.ref e0, .ref r0])), (e0, .inr (0, [.ref a1, .ref a2, .ref a3, .int cn])), (a1, .inl (cI, 32, .inl qs)), (a2, .inl (cI, 33, .inl ts)), (a3, .inl (cI, 33, .inl bs)), (r0, .inr (2, [.ref a4])), (a4, .inl (cI, 201, .inl mo))] := hD.sub [0, 1, 2, 3, 4, 5, 6] (by decide) rfl
    rw [hQf]
    exact W.iret hx hb hr (fun t ht hW => ⟨⟨_, (), rfl, rfl, by rw [ht]; exact hP9, hD9⟩, hS.F ht⟩) hS.2.2 dX3_up_11
def fX3_row (mo : Nat → Int32) (p1 : Int32) : Option (Int32) :=
  bd1 (fX3_isWithin p1 1 200) fun r5 =>
  if r5 = 0 then
    some (-1)
  else
    bd1 (fX2_countAll mo p1) fun r16 =>
    some r16
set_option maxHeartbeats 4000000 in
set_option maxRecDepth 100000 in
theorem zX3_row (l : Launch) (G : va_G) (cI : ClassId) (sz : Nat) (h e0 a1 a2 a3 r0 a4 : Nat) (qs : Nat → Int32) (ts : Nat → Int32) (bs : Nat → Int32) (cn : Int32) (mo : Nat → Int32) (p1 : Int32) {rv : Int32} (hf : fX3_row mo p1 = some rv) : mRi l yX3_row wsX3_row ({ frames := 3, cells := 0, slots := 0, locals := 84 }) [.ref h, .int p1] G cI [(h, .inr (3, [.ref e0, .ref r0])), (e0, .inr (0, [.ref a1, .ref a2, .ref a3, .int cn])), (a1, .inl (cI, 32, .inl qs)), (a2, .inl (cI, 33, .inl ts)), (a3, .inl (cI, 33, .inl bs)), (r0, .inr (2, [.ref a4])), (a4, .inl (cI, 201, .inl mo))] sz rv := by
  refine Met.ofW (cc := cX3_row) (maxL := 2) (ret := (some .int)) (by decide) rfl ?_
  intro p e s m args below meth c s₁ B hml hv
  obtain ⟨rfl, hsz, hP, hK⟩ := hv
  have hx := B.exec
  have hb := B.bytes
  have hr := B.returns
  have hts := atoms_spec (ws := wsX3_row) B.pre
  have hown : s.vm.findClass RX3 = some m.cls := findClass_of_methodNamed B.named
  have hlocks := B.notSynchronized
  subst hsz
  generalize hAe : va_A [] s.heap.size = A
  have hA : ∀ q : Nat, s.heap.size ≤ q → A q := fun q h => by rw [← hAe]; exact Or.inr h
  have hS : va_S A s.heap s.heap [] := va_S.rf
  have w0 := hts (.fieldLink RX3 19 "SternDesk" "rows" "LSternDesk$Rows;") (by decide +kernel)
  have hinX3 : ∀ w ∈ u_ws RX3 TX3 2, w ∈ wsX3_row := by decide +kernel
  obtain ⟨Qf, hQf⟩ : ∃ f : Int32 → State → Prop, f = fun z => MQ below (va_Qi (fun (r : Int32) (_ : Unit) => r = z) (fun _ _ => True) A) ([.ref h, .int p1].toArray) s 0 0 A := ⟨_, rfl⟩
  suffices hgo : W p l e (headSpec wsX3_row ({ frames := 3, cells := 0, slots := 0, locals := 84 })).room s m ([.ref h, .int p1].toArray) below meth c s.heap [] 0 0 (Qf rv) (entryFrame m ([.ref h, .int p1].toArray) 2) by rw [hQf] at hgo; exact hgo
  have hl := lv_entry ([.ref h, .int p1]) (n := 2) (Nat.le_of_ble_eq_true rfl)
  rw [lg_entry_eq]
  generalize (lg_sl ([.ref h, .int p1]) ++ List.replicate (2 - (lg_sl ([.ref h, .int p1])).length) Slot.unset).toArray = ls at hl ⊢
  have hl : lv_has ls 2 [(0, .ref h), (1, .int p1)] := hl
  unfold fX3_row at hf
  refine lv_iload_n hx hb dX3_row_0 rfl (lv_at hl 1 rfl) ?_
  refine lv_iconst (v := 1) hx hb dX3_row_1 (by decide) ?_
  refine lv_sipush (v := 200) hx hb dX3_row_2 (by decide) ?_
  obtain ⟨r5, hv5, hf⟩ := bd1_s hf
  refine roSi (As := [.int p1, .int 1, .int 200]) (rest := []) ⟨hx, hb, hml, hown, hts⟩ (zX3_isWithin l G cI _ p1 1 200 hv5) (va_cwS 3 hts gX3_row_X3_isWithin rfl rfl rfl (by decide +kernel) ⟨Nat.le_of_ble_eq_true rfl, Nat.le_of_ble_eq_true rfl⟩) hK hP rfl hl.1 rfl (Nat.le_of_ble_eq_true rfl) dX3_row_5 ⟨Nat.le_of_ble_eq_true rfl, Nat.le_of_ble_eq_true rfl⟩ hS hA (fun H locs hP hz5 hS => ?_)
  refine lv_if_eq (tgt := 22) hx hb dX3_row_8 (by decide) (fun c8 => ?_) (fun c8 => ?_)
  · have hf := it_t c8 hf
    refine lv_iconst (v := (-1)) hx hb dX3_row_22 (by decide) ?_
    refine qf_s (Qf := Qf) hf ?_
    rw [hQf]
    exact W.iret hx hb hr (fun t ht hW => ⟨⟨_, (), rfl, rfl, trivial⟩, hS.F ht⟩) hS.2.2 dX3_row_23
  · have hf := it_f c8 hf
    refine lv_aload_n hx hb dX3_row_11 rfl (lv_at hl 0 rfl) ?_
    refine va_get (D := G) (ci := 3) (v := .ref r0) (C := RX3) (T := TX3) (N := 2) hx hb hts hinX3 hown hK.1 hP 0 rfl rfl 1 (by decide) w0 (fun _ h9 => h9) rfl dX3_row_12 ?_
    refine lv_iload_n hx hb dX3_row_15 rfl (lv_at hl 1 rfl) ?_
    obtain ⟨r16, hv16, hf⟩ := bd1_s hf
    refine roVi (As := [.int p1]) (rest := []) ⟨hx, hb, hml, hown, hts⟩ (zX2_countAll l G cI _ r0 a4 mo p1 hv16) (cwV 1 hts gX3_row_X2_countAll rfl rfl rfl (by decide +kernel) ⟨Nat.le_of_ble_eq_true rfl, Nat.le_of_ble_eq_true rfl⟩) hK hP (hP.sub [5, 6] rfl) rfl rfl rfl hl.1 rfl (Nat.le_of_ble_eq_true rfl) dX3_row_16 ⟨Nat.le_of_ble_eq_true rfl, Nat.le_of_ble_eq_true rfl⟩ hS hA (fun H locs hP hz16 hS => ?_)
    refine lv_goto (tgt := 23) hx hb dX3_row_19 (by decide) ?_
    refine qf_s (Qf := Qf) hf ?_
    rw [hQf]
    exact W.iret hx hb hr (fun t ht hW => ⟨⟨_, (), rfl, rfl, trivial⟩, hS.F ht⟩) hS.2.2 dX3_row_23
def fX3_pick (mo : Nat → Int32) (qs : Nat → Int32) (ts : Nat → Int32) (bs : Nat → Int32) (cn : Int32) (p1 : Int32) (p2 : Int32) : Option (Int32 × (Nat → Int32) × (Nat → Int32) × (Nat → Int32) × Int32) :=
  bd1 (fX3_isWithin p1 1 200) fun r5 =>
  if r5 = 0 then
    some (0, qs, ts, bs, cn)
  else
    if p2 < 0 then
      some (0, qs, ts, bs, cn)
    else
      bd1 (fX2_countAll mo p1) fun r21 =>
      if p2 < r21 then
        bd1 (fX2_columnOf mo p1 p2) fun r35 =>
        bd4 (fX0_expand qs ts bs cn r35 p1) fun qs_45 ts_45 bs_45 cn_45 =>
        bd1 (fX2_countBelow mo p1 r35 p1) fun r58 =>
        bd4 (fX3_stepOn qs_45 ts_45 bs_45 cn_45 p1 (p2 - r58)) fun qs_62 ts_62 bs_62 cn_62 =>
        some (1, qs_62, ts_62, bs_62, cn_62)
      else
        some (0, qs, ts, bs, cn)
set_option maxHeartbeats 4000000 in
set_option maxRecDepth 100000 in
theorem zX3_pick (l : Launch) (G : va_G) (cI : ClassId) (sz : Nat) (h e0 a1 a2 a3 r0 a4 : Nat) (qs : Nat → Int32) (ts : Nat → Int32) (bs : Nat → Int32) (cn : Int32) (mo : Nat → Int32) (p1 : Int32) (p2 : Int32) {rv : Int32} {o_qs : Nat → Int32} {o_ts : Nat → Int32} {o_bs : Nat → Int32} {o_cn : Int32} (hf : fX3_pick mo qs ts bs cn p1 p2 = some (rv, o_qs, o_ts, o_bs, o_cn)) : mMi l yX3_pick wsX3_pick ({ frames := 5, cells := 0, slots := 0, locals := 133 }) [.ref h, .int p1, .int p2] G cI [(h, .inr (3, [.ref e0, .ref r0])), (e0, .inr (0, [.ref a1, .ref a2, .ref a3, .int cn])), (a1, .inl (cI, 32, .inl qs)), (a2, .inl (cI, 33, .inl ts)), (a3, .inl (cI, 33, .inl bs)), (r0, .inr (2, [.ref a4])), (a4, .inl (cI, 201, .inl mo))] sz rv [(h, .inr (3, [.ref e0, .ref r0])), (e0, .inr (0, [.ref a1, .ref a2, .ref a3, .int o_cn])), (a1, .inl (cI, 32, .inl o_qs)), (a2, .inl (cI, 33, .inl o_ts)), (a3, .inl (cI, 33, .inl o_bs)), (r0, .inr (2, [.ref a4])), (a4, .inl (cI, 201, .inl mo))] 0 0 := by
  refine Met.ofW (cc := cX3_pick) (maxL := 4) (ret := (some .int)) (by decide) rfl ?_
  intro p e s m args below meth c s₁ B hml hv
  obtain ⟨rfl, hsz, hP, hK, hD0⟩ := hv
  have hx := B.exec
  have hb := B.bytes
  have hr := B.returns
  have hts := atoms_spec (ws := wsX3_pick) B.pre
  have hown : s.vm.findClass RX3 = some m.cls := findClass_of_methodNamed B.named
  have hlocks := B.notSynchronized
  subst hsz
  have hD := hD0.self (sz := s.heap.size)
  generalize hAe : va_A [(h, .inr (3, [.ref e0, .ref r0])), (e0, .inr (0, [.ref a1, .ref a2, .ref a3, .int cn])), (a1, .inl (cI, 32, .inl qs)), (a2, .inl (cI, 33, .inl ts)), (a3, .inl (cI, 33, .inl bs)), (r0, .inr (2, [.ref a4])), (a4, .inl (cI, 201, .inl mo))] s.heap.size = A at hD ⊢
  have hA : ∀ q : Nat, s.heap.size ≤ q → A q := fun q h => by rw [← hAe]; exact Or.inr h
  have hS : va_S A s.heap s.heap [] := va_S.rf
  have w0 := hts (.fieldLink RX3 19 "SternDesk" "rows" "LSternDesk$Rows;") (by decide +kernel)
  have hinX3 : ∀ w ∈ u_ws RX3 TX3 2, w ∈ wsX3_pick := by decide +kernel
  have w2 := hts (.fieldLink RX3 10 "SternDesk" "hand" "LSternDesk$Expansion;") (by decide +kernel)
  obtain ⟨Qf, hQf⟩ : ∃ f : (Int32 × (Nat → Int32) × (Nat → Int32) × (Nat → Int32) × Int32) → State → Prop, f = fun z => MQ below (va_Qi (fun (r : Int32) (_ : Unit) => r = z.1) (fun _ t => va_P G vwCl [(h, .inr (3, [.ref e0, .ref r0])), (e0, .inr (0, [.ref a1, .ref a2, .ref a3, .int z.2.2.2.2])), (a1, .inl (cI, 32, .inl z.2.1)), (a2, .inl (cI, 33, .inl z.2.2.1)), (a3, .inl (cI, 33, .inl z.2.2.2.1)), (r0, .inr (2, [.ref a4])), (a4, .inl (cI, 201, .inl mo))] t.heap ∧ va_D A [(h, .inr (3, [.ref e0, .ref r0])), (e0, .inr (0, [.ref a1, .ref a2, .ref a3, .int z.2.2.2.2])), (a1, .inl (cI, 32, .inl z.2.1)), (a2, .inl (cI, 33, .inl z.2.2.1)), (a3, .inl (cI, 33, .inl z.2.2.2.1)), (r0, .inr (2, [.ref a4])), (a4, .inl (cI, 201, .inl mo))]) A) ([.ref h, .int p1, .int p2].toArray) s 0 0 A := ⟨_, rfl⟩
  suffices hgo : W p l e (headSpec wsX3_pick ({ frames := 5, cells := 0, slots := 0, locals := 133 })).room s m ([.ref h, .int p1, .int p2].toArray) below meth c s.heap [] 0 0 (Qf (rv, o_qs, o_ts, o_bs, o_cn)) (entryFrame m ([.ref h, .int p1, .int p2].toArray) 4) by rw [hQf] at hgo; exact hgo
  have hl := lv_entry ([.ref h, .int p1, .int p2]) (n := 4) (Nat.le_of_ble_eq_true rfl)
  rw [lg_entry_eq]
  generalize (lg_sl ([.ref h, .int p1, .int p2]) ++ List.replicate (4 - (lg_sl ([.ref h, .int p1, .int p2])).length) Slot.unset).toArray = ls at hl ⊢
  have hl : lv_has ls 4 [(0, .ref h), (1, .int p1), (2, .int p2)] := hl
  unfold fX3_pick at hf
  refine lv_iload_n hx hb dX3_pick_0 rfl (lv_at hl 1 rfl) ?_
  refine lv_iconst (v := 1) hx hb dX3_pick_1 (by decide) ?_
  refine lv_sipush (v := 200) hx hb dX3_pick_2 (by decide) ?_
  obtain ⟨r5, hv5, hf⟩ := bd1_s hf
  refine roSi (As := [.int p1, .int 1, .int 200]) (rest := []) ⟨hx, hb, hml, hown, hts⟩ (zX3_isWithin l G cI _ p1 1 200 hv5) (va_cwS 3 hts gX3_pick_X3_isWithin rfl rfl rfl (by decide +kernel) ⟨Nat.le_of_ble_eq_true rfl, Nat.le_of_ble_eq_true rfl⟩) hK hP rfl hl.1 rfl (Nat.le_of_ble_eq_true rfl) dX3_pick_5 ⟨Nat.le_of_ble_eq_true rfl, Nat.le_of_ble_eq_true rfl⟩ hS hA (fun H locs hP hz5 hS => ?_)
  refine lv_if_eq (tgt := 27) hx hb dX3_pick_8 (by decide) (fun c8 => ?_) (fun c8 => ?_)
  · have hf := it_t c8 hf
    refine lv_iconst (v := 0) hx hb dX3_pick_27 (by decide) ?_
    refine qf_s (Qf := Qf) hf ?_
    have hP9 : va_P G vwCl [(h, .inr (3, [.ref e0, .ref r0])), (e0, .inr (0, [.ref a1, .ref a2, .ref a3, .int cn])), (a1, .inl (cI, 32, .inl qs)), (a2, .inl (cI, 33, .inl ts)), (a3, .inl (cI, 33, .inl bs)), (r0, .inr (2, [.ref a4])), (a4, .inl (cI, 201, .inl mo))] _ := hP.sub [0, 1, 2, 3, 4, 5, 6] rfl
    have hD9 : va_D A [(h, .inr (3, [.ref e0, .ref r0])), (e0, .inr (0, [.ref a1, .ref a2, .ref a3, .int cn])), (a1, .inl (cI, 32, .inl qs)), (a2, .inl (cI, 33, .inl ts)), (a3, .inl (cI, 33, .inl bs)), (r0, .inr (2, [.ref a4])), (a4, .inl (cI, 201, .inl mo))] := hD.sub [0, 1, 2, 3, 4, 5, 6] (by decide) rfl
    rw [hQf]
    exact W.iret hx hb hr (fun t ht hW => ⟨⟨_, (), rfl, rfl, by rw [ht]; exact hP9, hD9⟩, hS.F ht⟩) hS.2.2 dX3_pick_28
  · have hf := it_f c8 hf
    refine lv_iload_n hx hb dX3_pick_11 rfl (lv_at hl 2 rfl) ?_
    refine lv_if_lt (tgt := 27) hx hb dX3_pick_12 (by decide) (fun c12 => ?_) (fun c12 => ?_)
    · have hf := it_t c12 hf
      refine lv_iconst (v := 0) hx hb dX3_pick_27 (by decide) ?_
      refine qf_s (Qf := Qf) hf ?_
      have hP9 : va_P G vwCl [(h, .inr (3, [.ref e0, .ref r0])), (e0, .inr (0, [.ref a1, .ref a2, .ref a3, .int cn])), (a1, .inl (cI, 32, .inl qs)), (a2, .inl (cI, 33, .inl ts)), (a3, .inl (cI, 33, .inl bs)), (r0, .inr (2, [.ref a4])), (a4, .inl (cI, 201, .inl mo))] _ := hP.sub [0, 1, 2, 3, 4, 5, 6] rfl
      have hD9 : va_D A [(h, .inr (3, [.ref e0, .ref r0])), (e0, .inr (0, [.ref a1, .ref a2, .ref a3, .int cn])), (a1, .inl (cI, 32, .inl qs)), (a2, .inl (cI, 33, .inl ts)), (a3, .inl (cI, 33, .inl bs)), (r0, .inr (2, [.ref a4])), (a4, .inl (cI, 201, .inl mo))] := hD.sub [0, 1, 2, 3, 4, 5, 6] (by decide) rfl
      rw [hQf]
      exact W.iret hx hb hr (fun t ht hW => ⟨⟨_, (), rfl, rfl, by rw [ht]; exact hP9, hD9⟩, hS.F ht⟩) hS.2.2 dX3_pick_28
    · have hf := it_f c12 hf
      refine lv_iload_n hx hb dX3_pick_15 rfl (lv_at hl 2 rfl) ?_
      refine lv_aload_n hx hb dX3_pick_16 rfl (lv_at hl 0 rfl) ?_
      refine va_get (D := G) (ci := 3) (v := .ref r0) (C := RX3) (T := TX3) (N := 2) hx hb hts hinX3 hown hK.1 hP 0 rfl rfl 1 (by decide) w0 (fun _ h9 => h9) rfl dX3_pick_17 ?_
      refine lv_iload_n hx hb dX3_pick_20 rfl (lv_at hl 1 rfl) ?_
      obtain ⟨r21, hv21, hf⟩ := bd1_s hf
      refine roVi (As := [.int p1]) (rest := [.int p2]) ⟨hx, hb, hml, hown, hts⟩ (zX2_countAll l G cI _ r0 a4 mo p1 hv21) (cwV 1 hts gX3_pick_X2_countAll rfl rfl rfl (by decide +kernel) ⟨Nat.le_of_ble_eq_true rfl, Nat.le_of_ble_eq_true rfl⟩) hK hP (hP.sub [5, 6] rfl) rfl rfl rfl hl.1 rfl (Nat.le_of_ble_eq_true rfl) dX3_pick_21 ⟨Nat.le_of_ble_eq_true rfl, Nat.le_of_ble_eq_true rfl⟩ hS hA (fun H locs hP hz21 hS => ?_)
      refine lv_icmp_lt (tgt := 29) hx hb dX3_pick_24 (by decide) (fun c24 => ?_) (fun c24 => ?_)
      · have hf := it_t c24 hf
        refine lv_aload_n hx hb dX3_pick_29 rfl (lv_at hl 0 rfl) ?_
        refine va_get (D := G) (ci := 3) (v := .ref r0) (C := RX3) (T := TX3) (N := 2) hx hb hts hinX3 hown hK.1 hP 0 rfl rfl 1 (by decide) w0 (fun _ h9 => h9) rfl dX3_pick_30 ?_
        refine lv_iload_n hx hb dX3_pick_33 rfl (lv_at hl 1 rfl) ?_
        refine lv_iload_n hx hb dX3_pick_34 rfl (lv_at hl 2 rfl) ?_
        obtain ⟨r35, hv35, hf⟩ := bd1_s hf
        refine roVi (As := [.int p1, .int p2]) (rest := []) ⟨hx, hb, hml, hown, hts⟩ (zX2_columnOf l G cI _ r0 a4 mo p1 p2 hv35) (cwV 2 hts gX3_pick_X2_columnOf rfl rfl rfl (by decide +kernel) ⟨Nat.le_of_ble_eq_true rfl, Nat.le_of_ble_eq_true rfl⟩) hK hP (hP.sub [5, 6] rfl) rfl rfl rfl hl.1 rfl (Nat.le_of_ble_eq_true rfl) dX3_pick_35 ⟨Nat.le_of_ble_eq_true rfl, Nat.le_of_ble_eq_true rfl⟩ hS hA (fun H locs hP hz35 hS => ?_)
        refine lv_istore_n (lv' := [(3, .int r35), (0, .ref h), (1, .int p1), (2, .int p2)]) hx hb dX3_pick_38 rfl hl (by decide) rfl (fun ls hl => ?_)
        refine lv_aload_n hx hb dX3_pick_39 rfl (lv_at hl 1 rfl) ?_
        refine va_get (D := G) (ci := 3) (v := .ref e0) (C := RX3) (T := TX3) (N := 2) hx hb hts hinX3 hown hK.1 hP 0 rfl rfl 0 (by decide) w2 (fun _ h9 => h9) rfl dX3_pick_40 ?_
        refine lv_iload_n hx hb dX3_pick_43 rfl (lv_at hl 0 rfl) ?_
        refine lv_iload_n hx hb dX3_pick_44 rfl (lv_at hl 2 rfl) ?_
        obtain ⟨qs_45, ts_45, bs_45, cn_45, hv45, hf⟩ := bd4_s hf
        refine mcVv (As := [.int r35, .int p1]) (rest := []) (wr := [(h, .inr (3, [.ref e0, .ref r0])), (r0, .inr (2, [.ref a4])), (a4, .inl (cI, 201, .inl mo))]) (wc := [(e0, .inr (0, [.ref a1, .ref a2, .ref a3, .int cn])), (a1, .inl (cI, 32, .inl qs)), (a2, .inl (cI, 33, .inl ts)), (a3, .inl (cI, 33, .inl bs))]) ⟨hx, hb, hml, hown, hts⟩ (zX0_expand l G cI _ e0 a1 a2 a3 qs ts bs cn r35 p1 hv45) (cwV 2 hts gX3_pick_X0_expand rfl rfl rfl (by decide +kernel) ⟨Nat.le_of_ble_eq_true rfl, Nat.le_of_ble_eq_true rfl⟩) hK hP hD [1, 2, 3, 4] [0, 5, 6] rfl rfl rfl (by decide) (by decide) (by decide) rfl rfl rfl hl.1 rfl (Nat.le_of_ble_eq_true rfl) dX3_pick_45 ⟨Nat.le_of_ble_eq_true rfl, Nat.le_of_ble_eq_true rfl⟩ hS hA (fun H locs hP hD hz45 hS => ?_)
        have hP : va_P G vwCl [(h, .inr (3, [.ref e0, .ref r0])), (e0, .inr (0, [.ref a1, .ref a2, .ref a3, .int cn_45])), (a1, .inl (cI, 32, .inl qs_45)), (a2, .inl (cI, 33, .inl ts_45)), (a3, .inl (cI, 33, .inl bs_45)), (r0, .inr (2, [.ref a4])), (a4, .inl (cI, 201, .inl mo))] H := hP.sub [0, 3, 4, 5, 6, 1, 2] rfl
        have hD : va_D A [(h, .inr (3, [.ref e0, .ref r0])), (e0, .inr (0, [.ref a1, .ref a2, .ref a3, .int cn_45])), (a1, .inl (cI, 32, .inl qs_45)), (a2, .inl (cI, 33, .inl ts_45)), (a3, .inl (cI, 33, .inl bs_45)), (r0, .inr (2, [.ref a4])), (a4, .inl (cI, 201, .inl mo))] := hD.sub [0, 3, 4, 5, 6, 1, 2] (by decide) rfl
        refine lv_aload_n hx hb dX3_pick_48 rfl (lv_at hl 1 rfl) ?_
        refine lv_iload_n hx hb dX3_pick_49 rfl (lv_at hl 2 rfl) ?_
        refine lv_iload_n hx hb dX3_pick_50 rfl (lv_at hl 3 rfl) ?_
        refine lv_aload_n hx hb dX3_pick_51 rfl (lv_at hl 1 rfl) ?_
        refine va_get (D := G) (ci := 3) (v := .ref r0) (C := RX3) (T := TX3) (N := 2) hx hb hts hinX3 hown hK.1 hP 0 rfl rfl 1 (by decide) w0 (fun _ h9 => h9) rfl dX3_pick_52 ?_
        refine lv_iload_n hx hb dX3_pick_55 rfl (lv_at hl 2 rfl) ?_
        refine lv_iload_n hx hb dX3_pick_56 rfl (lv_at hl 0 rfl) ?_
        refine lv_iload_n hx hb dX3_pick_57 rfl (lv_at hl 2 rfl) ?_
        obtain ⟨r58, hv58, hf⟩ := bd1_s hf
        refine roVi (As := [.int p1, .int r35, .int p1]) (rest := [.int p2, .int p1, .ref h]) ⟨hx, hb, hml, hown, hts⟩ (zX2_countBelow l G cI _ r0 a4 mo p1 r35 p1 hv58) (cwV 3 hts gX3_pick_X2_countBelow rfl rfl rfl (by decide +kernel) ⟨Nat.le_of_ble_eq_true rfl, Nat.le_of_ble_eq_true rfl⟩) hK hP (hP.sub [5, 6] rfl) rfl rfl rfl hl.1 rfl (Nat.le_of_ble_eq_true rfl) dX3_pick_58 ⟨Nat.le_of_ble_eq_true rfl, Nat.le_of_ble_eq_true rfl⟩ hS hA (fun H locs hP hz58 hS => ?_)
        refine lv_isub hx hb dX3_pick_61 ?_
        obtain ⟨qs_62, ts_62, bs_62, cn_62, hv62, hf⟩ := bd4_s hf
        refine mcVv (As := [.int p1, .int (p2 - r58)]) (rest := []) (wr := []) (wc := [(h, .inr (3, [.ref e0, .ref r0])), (e0, .inr (0, [.ref a1, .ref a2, .ref a3, .int cn_45])), (a1, .inl (cI, 32, .inl qs_45)), (a2, .inl (cI, 33, .inl ts_45)), (a3, .inl (cI, 33, .inl bs_45)), (r0, .inr (2, [.ref a4])), (a4, .inl (cI, 201, .inl mo))]) ⟨hx, hb, hml, hown, hts⟩ (zX3_stepOn l G cI _ h e0 a1 a2 a3 r0 a4 qs_45 ts_45 bs_45 cn_45 mo p1 (p2 - r58) hv62) (cwV 2 hts gX3_pick_X3_stepOn rfl rfl rfl (by decide +kernel) ⟨Nat.le_of_ble_eq_true rfl, Nat.le_of_ble_eq_true rfl⟩) hK hP hD [0, 1, 2, 3, 4, 5, 6] [] rfl rfl rfl (by decide) (by decide) (by decide) rfl rfl rfl hl.1 rfl (Nat.le_of_ble_eq_true rfl) dX3_pick_62 ⟨Nat.le_of_ble_eq_true rfl, Nat.le_of_ble_eq_true rfl⟩ hS hA (fun H locs hP hD hz62 hS => ?_)
        have hP : va_P G vwCl [(h, .inr (3, [.ref e0, .ref r0])), (e0, .inr (0, [.ref a1, .ref a2, .ref a3, .int cn_62])), (a1, .inl (cI, 32, .inl qs_62)), (a2, .inl (cI, 33, .inl ts_62)), (a3, .inl (cI, 33, .inl bs_62)), (r0, .inr (2, [.ref a4])), (a4, .inl (cI, 201, .inl mo))] H := hP
        have hD : va_D A [(h, .inr (3, [.ref e0, .ref r0])), (e0, .inr (0, [.ref a1, .ref a2, .ref a3, .int cn_62])), (a1, .inl (cI, 32, .inl qs_62)), (a2, .inl (cI, 33, .inl ts_62)), (a3, .inl (cI, 33, .inl bs_62)), (r0, .inr (2, [.ref a4])), (a4, .inl (cI, 201, .inl mo))] := hD
        refine lv_iconst (v := 1) hx hb dX3_pick_65 (by decide) ?_
        refine qf_s (Qf := Qf) hf ?_
        have hP9 : va_P G vwCl [(h, .inr (3, [.ref e0, .ref r0])), (e0, .inr (0, [.ref a1, .ref a2, .ref a3, .int cn_62])), (a1, .inl (cI, 32, .inl qs_62)), (a2, .inl (cI, 33, .inl ts_62)), (a3, .inl (cI, 33, .inl bs_62)), (r0, .inr (2, [.ref a4])), (a4, .inl (cI, 201, .inl mo))] _ := hP.sub [0, 1, 2, 3, 4, 5, 6] rfl
        have hD9 : va_D A [(h, .inr (3, [.ref e0, .ref r0])), (e0, .inr (0, [.ref a1, .ref a2, .ref a3, .int cn_62])), (a1, .inl (cI, 32, .inl qs_62)), (a2, .inl (cI, 33, .inl ts_62)), (a3, .inl (cI, 33, .inl bs_62)), (r0, .inr (2, [.ref a4])), (a4, .inl (cI, 201, .inl mo))] := hD.sub [0, 1, 2, 3, 4, 5, 6] (by decide) rfl
        rw [hQf]
        exact W.iret hx hb hr (fun t ht hW => ⟨⟨_, (), rfl, rfl, by rw [ht]; exact hP9, hD9⟩, hS.F ht⟩) hS.2.2 dX3_pick_66
      · have hf := it_f c24 hf
        refine lv_iconst (v := 0) hx hb dX3_pick_27 (by decide) ?_
        refine qf_s (Qf := Qf) hf ?_
        have hP9 : va_P G vwCl [(h, .inr (3, [.ref e0, .ref r0])), (e0, .inr (0, [.ref a1, .ref a2, .ref a3, .int cn])), (a1, .inl (cI, 32, .inl qs)), (a2, .inl (cI, 33, .inl ts)), (a3, .inl (cI, 33, .inl bs)), (r0, .inr (2, [.ref a4])), (a4, .inl (cI, 201, .inl mo))] _ := hP.sub [0, 1, 2, 3, 4, 5, 6] rfl
        have hD9 : va_D A [(h, .inr (3, [.ref e0, .ref r0])), (e0, .inr (0, [.ref a1, .ref a2, .ref a3, .int cn])), (a1, .inl (cI, 32, .inl qs)), (a2, .inl (cI, 33, .inl ts)), (a3, .inl (cI, 33, .inl bs)), (r0, .inr (2, [.ref a4])), (a4, .inl (cI, 201, .inl mo))] := hD.sub [0, 1, 2, 3, 4, 5, 6] (by decide) rfl
        rw [hQf]
        exact W.iret hx hb hr (fun t ht hW => ⟨⟨_, (), rfl, rfl, by rw [ht]; exact hP9, hD9⟩, hS.F ht⟩) hS.2.2 dX3_pick_28
def fX3_place (ts : Nat → Int32) (bs : Nat → Int32) (cn : Int32) (mo : Nat → Int32) (p1 : Int32) : Option (Int32) :=
  bd1 (fX3_isWithin p1 1 200) fun r5 =>
  if r5 = 0 then
    some (-1)
  else
    bd1 (fX0_top ts cn) fun r20 =>
    bd1 (fX0_bottom bs cn) fun r27 =>
    bd1 (fX2_countBelow mo p1 r20 r27) fun r30 =>
    some r30
set_option maxHeartbeats 4000000 in
set_option maxRecDepth 100000 in
theorem zX3_place (l : Launch) (G : va_G) (cI : ClassId) (sz : Nat) (h e0 a1 a2 a3 r0 a4 : Nat) (qs : Nat → Int32) (ts : Nat → Int32) (bs : Nat → Int32) (cn : Int32) (mo : Nat → Int32) (p1 : Int32) {rv : Int32} (hf : fX3_place ts bs cn mo p1 = some rv) : mRi l yX3_place wsX3_place ({ frames := 4, cells := 0, slots := 0, locals := 107 }) [.ref h, .int p1] G cI [(h, .inr (3, [.ref e0, .ref r0])), (e0, .inr (0, [.ref a1, .ref a2, .ref a3, .int cn])), (a1, .inl (cI, 32, .inl qs)), (a2, .inl (cI, 33, .inl ts)), (a3, .inl (cI, 33, .inl bs)), (r0, .inr (2, [.ref a4])), (a4, .inl (cI, 201, .inl mo))] sz rv := by
  refine Met.ofW (cc := cX3_place) (maxL := 2) (ret := (some .int)) (by decide) rfl ?_
  intro p e s m args below meth c s₁ B hml hv
  obtain ⟨rfl, hsz, hP, hK⟩ := hv
  have hx := B.exec
  have hb := B.bytes
  have hr := B.returns
  have hts := atoms_spec (ws := wsX3_place) B.pre
  have hown : s.vm.findClass RX3 = some m.cls := findClass_of_methodNamed B.named
  have hlocks := B.notSynchronized
  subst hsz
  generalize hAe : va_A [] s.heap.size = A
  have hA : ∀ q : Nat, s.heap.size ≤ q → A q := fun q h => by rw [← hAe]; exact Or.inr h
  have hS : va_S A s.heap s.heap [] := va_S.rf
  have w0 := hts (.fieldLink RX3 19 "SternDesk" "rows" "LSternDesk$Rows;") (by decide +kernel)
  have hinX3 : ∀ w ∈ u_ws RX3 TX3 2, w ∈ wsX3_place := by decide +kernel
  have w2 := hts (.fieldLink RX3 10 "SternDesk" "hand" "LSternDesk$Expansion;") (by decide +kernel)
  obtain ⟨Qf, hQf⟩ : ∃ f : Int32 → State → Prop, f = fun z => MQ below (va_Qi (fun (r : Int32) (_ : Unit) => r = z) (fun _ _ => True) A) ([.ref h, .int p1].toArray) s 0 0 A := ⟨_, rfl⟩
  suffices hgo : W p l e (headSpec wsX3_place ({ frames := 4, cells := 0, slots := 0, locals := 107 })).room s m ([.ref h, .int p1].toArray) below meth c s.heap [] 0 0 (Qf rv) (entryFrame m ([.ref h, .int p1].toArray) 2) by rw [hQf] at hgo; exact hgo
  have hl := lv_entry ([.ref h, .int p1]) (n := 2) (Nat.le_of_ble_eq_true rfl)
  rw [lg_entry_eq]
  generalize (lg_sl ([.ref h, .int p1]) ++ List.replicate (2 - (lg_sl ([.ref h, .int p1])).length) Slot.unset).toArray = ls at hl ⊢
  have hl : lv_has ls 2 [(0, .ref h), (1, .int p1)] := hl
  unfold fX3_place at hf
  refine lv_iload_n hx hb dX3_place_0 rfl (lv_at hl 1 rfl) ?_
  refine lv_iconst (v := 1) hx hb dX3_place_1 (by decide) ?_
  refine lv_sipush (v := 200) hx hb dX3_place_2 (by decide) ?_
  obtain ⟨r5, hv5, hf⟩ := bd1_s hf
  refine roSi (As := [.int p1, .int 1, .int 200]) (rest := []) ⟨hx, hb, hml, hown, hts⟩ (zX3_isWithin l G cI _ p1 1 200 hv5) (va_cwS 3 hts gX3_place_X3_isWithin rfl rfl rfl (by decide +kernel) ⟨Nat.le_of_ble_eq_true rfl, Nat.le_of_ble_eq_true rfl⟩) hK hP rfl hl.1 rfl (Nat.le_of_ble_eq_true rfl) dX3_place_5 ⟨Nat.le_of_ble_eq_true rfl, Nat.le_of_ble_eq_true rfl⟩ hS hA (fun H locs hP hz5 hS => ?_)
  refine lv_if_eq (tgt := 36) hx hb dX3_place_8 (by decide) (fun c8 => ?_) (fun c8 => ?_)
  · have hf := it_t c8 hf
    refine lv_iconst (v := (-1)) hx hb dX3_place_36 (by decide) ?_
    refine qf_s (Qf := Qf) hf ?_
    rw [hQf]
    exact W.iret hx hb hr (fun t ht hW => ⟨⟨_, (), rfl, rfl, trivial⟩, hS.F ht⟩) hS.2.2 dX3_place_37
  · have hf := it_f c8 hf
    refine lv_aload_n hx hb dX3_place_11 rfl (lv_at hl 0 rfl) ?_
    refine va_get (D := G) (ci := 3) (v := .ref r0) (C := RX3) (T := TX3) (N := 2) hx hb hts hinX3 hown hK.1 hP 0 rfl rfl 1 (by decide) w0 (fun _ h9 => h9) rfl dX3_place_12 ?_
    refine lv_iload_n hx hb dX3_place_15 rfl (lv_at hl 1 rfl) ?_
    refine lv_aload_n hx hb dX3_place_16 rfl (lv_at hl 0 rfl) ?_
    refine va_get (D := G) (ci := 3) (v := .ref e0) (C := RX3) (T := TX3) (N := 2) hx hb hts hinX3 hown hK.1 hP 0 rfl rfl 0 (by decide) w2 (fun _ h9 => h9) rfl dX3_place_17 ?_
    obtain ⟨r20, hv20, hf⟩ := bd1_s hf
    refine roVi (As := []) (rest := [.int p1, .ref r0]) ⟨hx, hb, hml, hown, hts⟩ (zX0_top l G cI _ e0 a1 a2 a3 qs ts bs cn  hv20) (cwV 0 hts gX3_place_X0_top rfl rfl rfl (by decide +kernel) ⟨Nat.le_of_ble_eq_true rfl, Nat.le_of_ble_eq_true rfl⟩) hK hP (hP.sub [1, 2, 3, 4] rfl) rfl rfl rfl hl.1 rfl (Nat.le_of_ble_eq_true rfl) dX3_place_20 ⟨Nat.le_of_ble_eq_true rfl, Nat.le_of_ble_eq_true rfl⟩ hS hA (fun H locs hP hz20 hS => ?_)
    refine lv_aload_n hx hb dX3_place_23 rfl (lv_at hl 0 rfl) ?_
    refine va_get (D := G) (ci := 3) (v := .ref e0) (C := RX3) (T := TX3) (N := 2) hx hb hts hinX3 hown hK.1 hP 0 rfl rfl 0 (by decide) w2 (fun _ h9 => h9) rfl dX3_place_24 ?_
    obtain ⟨r27, hv27, hf⟩ := bd1_s hf
    refine roVi (As := []) (rest := [.int r20, .int p1, .ref r0]) ⟨hx, hb, hml, hown, hts⟩ (zX0_bottom l G cI _ e0 a1 a2 a3 qs ts bs cn  hv27) (cwV 0 hts gX3_place_X0_bottom rfl rfl rfl (by decide +kernel) ⟨Nat.le_of_ble_eq_true rfl, Nat.le_of_ble_eq_true rfl⟩) hK hP (hP.sub [1, 2, 3, 4] rfl) rfl rfl rfl hl.1 rfl (Nat.le_of_ble_eq_true rfl) dX3_place_27 ⟨Nat.le_of_ble_eq_true rfl, Nat.le_of_ble_eq_true rfl⟩ hS hA (fun H locs hP hz27 hS => ?_)
    obtain ⟨r30, hv30, hf⟩ := bd1_s hf
    refine roVi (As := [.int p1, .int r20, .int r27]) (rest := []) ⟨hx, hb, hml, hown, hts⟩ (zX2_countBelow l G cI _ r0 a4 mo p1 r20 r27 hv30) (cwV 3 hts gX3_place_X2_countBelow rfl rfl rfl (by decide +kernel) ⟨Nat.le_of_ble_eq_true rfl, Nat.le_of_ble_eq_true rfl⟩) hK hP (hP.sub [5, 6] rfl) rfl rfl rfl hl.1 rfl (Nat.le_of_ble_eq_true rfl) dX3_place_30 ⟨Nat.le_of_ble_eq_true rfl, Nat.le_of_ble_eq_true rfl⟩ hS hA (fun H locs hP hz30 hS => ?_)
    refine lv_goto (tgt := 37) hx hb dX3_place_33 (by decide) ?_
    refine qf_s (Qf := Qf) hf ?_
    rw [hQf]
    exact W.iret hx hb hr (fun t ht hW => ⟨⟨_, (), rfl, rfl, trivial⟩, hS.F ht⟩) hS.2.2 dX3_place_37
def fX3_floors (ts : Nat → Int32) (bs : Nat → Int32) (cn : Int32) (p1 : Int32) : Option (Int64) :=
  bd1 (fX3_isWithin p1 0 100000) fun r4 =>
  if r4 = 0 then
    some (-1)
  else
    bd1 (fX0_top ts cn) fun r16 =>
    bd1 (fX0_bottom bs cn) fun r25 =>
    bd1 (fX3_sumOfFloors (Int32.toInt64 p1) (Int32.toInt64 r16) 0 (Int32.toInt64 r25)) fun r29 =>
    some r29
set_option maxHeartbeats 4000000 in
set_option maxRecDepth 100000 in
theorem zX3_floors (l : Launch) (G : va_G) (cI : ClassId) (sz : Nat) (h e0 a1 a2 a3 r0 a4 : Nat) (qs : Nat → Int32) (ts : Nat → Int32) (bs : Nat → Int32) (cn : Int32) (mo : Nat → Int32) (p1 : Int32) {rv : Int64} (hf : fX3_floors ts bs cn p1 = some rv) : mRl l yX3_floors wsX3_floors ({ frames := 1, cells := 0, slots := 0, locals := 34 }) [.ref h, .int p1] G cI [(h, .inr (3, [.ref e0, .ref r0])), (e0, .inr (0, [.ref a1, .ref a2, .ref a3, .int cn])), (a1, .inl (cI, 32, .inl qs)), (a2, .inl (cI, 33, .inl ts)), (a3, .inl (cI, 33, .inl bs)), (r0, .inr (2, [.ref a4])), (a4, .inl (cI, 201, .inl mo))] sz rv := by
  refine Met.ofW (cc := cX3_floors) (maxL := 2) (ret := (some .long)) (by decide) rfl ?_
  intro p e s m args below meth c s₁ B hml hv
  obtain ⟨rfl, hsz, hP, hK⟩ := hv
  have hx := B.exec
  have hb := B.bytes
  have hr := B.returns
  have hts := atoms_spec (ws := wsX3_floors) B.pre
  have hown : s.vm.findClass RX3 = some m.cls := findClass_of_methodNamed B.named
  have hlocks := B.notSynchronized
  subst hsz
  generalize hAe : va_A [] s.heap.size = A
  have hA : ∀ q : Nat, s.heap.size ≤ q → A q := fun q h => by rw [← hAe]; exact Or.inr h
  have hS : va_S A s.heap s.heap [] := va_S.rf
  have w0 := hts (.constant RX3 27 (100000)) (by decide +kernel)
  have w1 := hts (.constantLong RX3 128 (-1)) (by decide +kernel)
  have w2 := hts (.fieldLink RX3 10 "SternDesk" "hand" "LSternDesk$Expansion;") (by decide +kernel)
  have hinX3 : ∀ w ∈ u_ws RX3 TX3 2, w ∈ wsX3_floors := by decide +kernel
  obtain ⟨Qf, hQf⟩ : ∃ f : Int64 → State → Prop, f = fun z => MQ below (va_Ql (fun (r : Int64) (_ : Unit) => r = z) (fun _ _ => True) A) ([.ref h, .int p1].toArray) s 0 0 A := ⟨_, rfl⟩
  suffices hgo : W p l e (headSpec wsX3_floors ({ frames := 1, cells := 0, slots := 0, locals := 34 })).room s m ([.ref h, .int p1].toArray) below meth c s.heap [] 0 0 (Qf rv) (entryFrame m ([.ref h, .int p1].toArray) 2) by rw [hQf] at hgo; exact hgo
  have hl := lv_entry ([.ref h, .int p1]) (n := 2) (Nat.le_of_ble_eq_true rfl)
  rw [lg_entry_eq]
  generalize (lg_sl ([.ref h, .int p1]) ++ List.replicate (2 - (lg_sl ([.ref h, .int p1])).length) Slot.unset).toArray = ls at hl ⊢
  have hl : lv_has ls 2 [(0, .ref h), (1, .int p1)] := hl
  unfold fX3_floors at hf
  refine lv_iload_n hx hb dX3_floors_0 rfl (lv_at hl 1 rfl) ?_
  refine lv_iconst (v := 0) hx hb dX3_floors_1 (by decide) ?_
  refine lv_ldc hx hb hown w0 dX3_floors_2 ?_
  obtain ⟨r4, hv4, hf⟩ := bd1_s hf
  refine roSi (As := [.int p1, .int 0, .int 100000]) (rest := []) ⟨hx, hb, hml, hown, hts⟩ (zX3_isWithin l G cI _ p1 0 100000 hv4) (va_cwS 3 hts gX3_floors_X3_isWithin rfl rfl rfl (by decide +kernel) ⟨Nat.le_of_ble_eq_true rfl, Nat.le_of_ble_eq_true rfl⟩) hK hP rfl hl.1 rfl (Nat.le_of_ble_eq_true rfl) dX3_floors_4 ⟨Nat.le_of_ble_eq_true rfl, Nat.le_of_ble_eq_true rfl⟩ hS hA (fun H locs hP hz4 hS => ?_)
  refine lv_if_eq (tgt := 35) hx hb dX3_floors_7 (by decide) (fun c7 => ?_) (fun c7 => ?_)
  · have hf := it_t c7 hf
    refine lv_ldc2 hx hb hown w1 dX3_floors_35 ?_
    refine qf_s (Qf := Qf) hf ?_
    rw [hQf]
    exact W.lret hx hb hr (fun t ht hW => ⟨⟨_, (), rfl, rfl, trivial⟩, hS.F ht⟩) hS.2.2 dX3_floors_38
  · have hf := it_f c7 hf
    refine lv_iload_n hx hb dX3_floors_10 rfl (lv_at hl 1 rfl) ?_
    refine lv_i2l hx hb dX3_floors_11 rfl ?_
    refine lv_aload_n hx hb dX3_floors_12 rfl (lv_at hl 0 rfl) ?_
    refine va_get (D := G) (ci := 3) (v := .ref e0) (C := RX3) (T := TX3) (N := 2) hx hb hts hinX3 hown hK.1 hP 0 rfl rfl 0 (by decide) w2 (fun _ h9 => h9) rfl dX3_floors_13 ?_
    obtain ⟨r16, hv16, hf⟩ := bd1_s hf
    refine roVi (As := []) (rest := [.long (Int32.toInt64 p1)]) ⟨hx, hb, hml, hown, hts⟩ (zX0_top l G cI _ e0 a1 a2 a3 qs ts bs cn  hv16) (cwV 0 hts gX3_floors_X0_top rfl rfl rfl (by decide +kernel) ⟨Nat.le_of_ble_eq_true rfl, Nat.le_of_ble_eq_true rfl⟩) hK hP (hP.sub [1, 2, 3, 4] rfl) rfl rfl rfl hl.1 rfl (Nat.le_of_ble_eq_true rfl) dX3_floors_16 ⟨Nat.le_of_ble_eq_true rfl, Nat.le_of_ble_eq_true rfl⟩ hS hA (fun H locs hP hz16 hS => ?_)
    refine lv_i2l hx hb dX3_floors_19 rfl ?_
    refine lv_lconst (v := 0) hx hb dX3_floors_20 (by decide) ?_
    refine lv_aload_n hx hb dX3_floors_21 rfl (lv_at hl 0 rfl) ?_
    refine va_get (D := G) (ci := 3) (v := .ref e0) (C := RX3) (T := TX3) (N := 2) hx hb hts hinX3 hown hK.1 hP 0 rfl rfl 0 (by decide) w2 (fun _ h9 => h9) rfl dX3_floors_22 ?_
    obtain ⟨r25, hv25, hf⟩ := bd1_s hf
    refine roVi (As := []) (rest := [.long 0, .long (Int32.toInt64 r16), .long (Int32.toInt64 p1)]) ⟨hx, hb, hml, hown, hts⟩ (zX0_bottom l G cI _ e0 a1 a2 a3 qs ts bs cn  hv25) (cwV 0 hts gX3_floors_X0_bottom rfl rfl rfl (by decide +kernel) ⟨Nat.le_of_ble_eq_true rfl, Nat.le_of_ble_eq_true rfl⟩) hK hP (hP.sub [1, 2, 3, 4] rfl) rfl rfl rfl hl.1 rfl (Nat.le_of_ble_eq_true rfl) dX3_floors_25 ⟨Nat.le_of_ble_eq_true rfl, Nat.le_of_ble_eq_true rfl⟩ hS hA (fun H locs hP hz25 hS => ?_)
    refine lv_i2l hx hb dX3_floors_28 rfl ?_
    obtain ⟨r29, hv29, hf⟩ := bd1_s hf
    refine roSl (As := [.long (Int32.toInt64 p1), .long (Int32.toInt64 r16), .long 0, .long (Int32.toInt64 r25)]) (rest := []) ⟨hx, hb, hml, hown, hts⟩ (zX3_sumOfFloors l G cI _ (Int32.toInt64 p1) (Int32.toInt64 r16) 0 (Int32.toInt64 r25) hv29) (va_cwS 4 hts gX3_floors_X3_sumOfFloors rfl rfl rfl (by decide +kernel) ⟨Nat.le_of_ble_eq_true rfl, Nat.le_of_ble_eq_true rfl⟩) hK hP rfl hl.1 rfl (Nat.le_of_ble_eq_true rfl) dX3_floors_29 ⟨Nat.le_of_ble_eq_true rfl, Nat.le_of_ble_eq_true rfl⟩ hS hA (fun H locs hP hz29 hS => ?_)
    refine lv_goto (tgt := 38) hx hb dX3_floors_32 (by decide) ?_
    refine qf_s (Qf := Qf) hf ?_
    rw [hQf]
    exact W.lret hx hb hr (fun t ht hW => ⟨⟨_, (), rfl, rfl, trivial⟩, hS.F ht⟩) hS.2.2 dX3_floors_38
def fX3_sawteeth_J130 (qs : Nat → Int32) (ts : Nat → Int32) (bs : Nat → Int32) (cn : Int32) (x2 : Int64) (x4 : Int64) (x6 : Int64) (y0 : Int64) : Option (Int64) :=
  ckL 2 <|
  some (((x6 + (x4 * x2)) + y0) / 2)
def fX3_sawteeth_J56 (k15 : Int32 → Int64 → Int32 → Option (Int64)) (qs : Nat → Int32) (ts : Nat → Int32) (bs : Nat → Int32) (cn : Int32) (x1 : Int32) (x4 : Int32) (y0 : Int64) (y1 : Int64) : Option (Int64) :=
  nm (y0 + y1) fun v57 =>
  nm (x4 + 1) fun v58 =>
  k15 x1 v57 v58
def fX3_sawteeth_B15 (k15 : Int32 → Int64 → Int32 → Option (Int64)) (qs : Nat → Int32) (ts : Nat → Int32) (bs : Nat → Int32) (cn : Int32) (x1 : Int32) (x2 : Int64) (x4 : Int32) : Option (Int64) :=
  if x1 < x4 then
    bd1 (fX0_bottom bs cn) fun r68 =>
    nm (Int32.toInt64 r68) fun v72 =>
    bd1 (fX0_top ts cn) fun r78 =>
    ckI 0 32 <|
    nm ((Int32.toInt64 r78) - ((Int32.toInt64 (qs (Int32.toNatClampNeg 0))) * v72)) fun v96 =>
    bd1 (fX0_bottomBefore bs cn) fun r102 =>
    nm (Int32.toInt64 r102) fun v106 =>
    ckZ 2 <|
    if (x1 - x1 / 2 * 2) = 1 then
      fX3_sawteeth_J130  qs ts bs cn x2 v72 v96 (v106 - (3 * v72))
    else
      fX3_sawteeth_J130  qs ts bs cn x2 v72 v96 (-v106)
  else
    ckZ 2 <|
    if (x4 - x4 / 2 * 2) = 1 then
      ckI x4 32 <|
      fX3_sawteeth_J56 k15 qs ts bs cn x1 x4 x2 (Int32.toInt64 (qs (Int32.toNatClampNeg x4)))
    else
      ckI x4 32 <|
      fX3_sawteeth_J56 k15 qs ts bs cn x1 x4 x2 (Int32.toInt64 (-(qs (Int32.toNatClampNeg x4))))
def fX3_sawteeth_L15 (qs : Nat → Int32) (ts : Nat → Int32) (bs : Nat → Int32) (cn : Int32) : Nat → Int32 → Int64 → Int32 → Option (Int64)
  | 0, _, _, _ => none
  | n + 1, x1, x2, x4 => fX3_sawteeth_B15 (fX3_sawteeth_L15  qs ts bs cn n) qs ts bs cn x1 x2 x4
def fX3_sawteeth (qs : Nat → Int32) (ts : Nat → Int32) (bs : Nat → Int32) (cn : Int32) : Option (Int64) :=
  nm (cn - 1) fun v9 =>
  fX3_sawteeth_L15  qs ts bs cn FU v9 0 1
set_option maxHeartbeats 4000000 in
set_option maxRecDepth 100000 in
theorem zX3_sawteeth (l : Launch) (G : va_G) (cI : ClassId) (sz : Nat) (h e0 a1 a2 a3 r0 a4 : Nat) (qs : Nat → Int32) (ts : Nat → Int32) (bs : Nat → Int32) (cn : Int32) (mo : Nat → Int32) {rv : Int64} (hf : fX3_sawteeth qs ts bs cn = some rv) : mRl l yX3_sawteeth wsX3_sawteeth ({ frames := 1, cells := 0, slots := 0, locals := 20 }) [.ref h] G cI [(h, .inr (3, [.ref e0, .ref r0])), (e0, .inr (0, [.ref a1, .ref a2, .ref a3, .int cn])), (a1, .inl (cI, 32, .inl qs)), (a2, .inl (cI, 33, .inl ts)), (a3, .inl (cI, 33, .inl bs)), (r0, .inr (2, [.ref a4])), (a4, .inl (cI, 201, .inl mo))] sz rv := by
  refine Met.ofW (cc := cX3_sawteeth) (maxL := 12) (ret := (some .long)) (by decide) rfl ?_
  intro p e s m args below meth c s₁ B hml hv
  obtain ⟨rfl, hsz, hP, hK⟩ := hv
  have hx := B.exec
  have hb := B.bytes
  have hr := B.returns
  have hts := atoms_spec (ws := wsX3_sawteeth) B.pre
  have hown : s.vm.findClass RX3 = some m.cls := findClass_of_methodNamed B.named
  have hlocks := B.notSynchronized
  subst hsz
  generalize hAe : va_A [] s.heap.size = A
  have hA : ∀ q : Nat, s.heap.size ≤ q → A q := fun q h => by rw [← hAe]; exact Or.inr h
  have hS : va_S A s.heap s.heap [] := va_S.rf
  have w0 := hts (.fieldLink RX3 10 "SternDesk" "hand" "LSternDesk$Expansion;") (by decide +kernel)
  have hinX3 : ∀ w ∈ u_ws RX3 TX3 2, w ∈ wsX3_sawteeth := by decide +kernel
  have w2 := hts (.fieldLink RX3 50 "SternDesk$Expansion" "count" "I") (by decide +kernel)
  have hinX0 : ∀ w ∈ u_ws RX0 TX0 4, w ∈ wsX3_sawteeth := by decide +kernel
  have w4 := hts (.fieldLink RX3 58 "SternDesk$Expansion" "quotients" "[I") (by decide +kernel)
  have w5 := hts (.constantLong RX3 130 (3)) (by decide +kernel)
  have w6 := hts (.constantLong RX3 132 (2)) (by decide +kernel)
  obtain ⟨Qf, hQf⟩ : ∃ f : Int64 → State → Prop, f = fun z => MQ below (va_Ql (fun (r : Int64) (_ : Unit) => r = z) (fun _ _ => True) A) ([.ref h].toArray) s 0 0 A := ⟨_, rfl⟩
  suffices hgo : W p l e (headSpec wsX3_sawteeth ({ frames := 1, cells := 0, slots := 0, locals := 20 })).room s m ([.ref h].toArray) below meth c s.heap [] 0 0 (Qf rv) (entryFrame m ([.ref h].toArray) 12) by rw [hQf] at hgo; exact hgo
  have J130 : ∀ (x2 : Int64) (x4 : Int64) (x6 : Int64) (y0 : Int64) (H : Heap) (locs : List Loc) (ls : Array Slot), fX3_sawteeth_J130  qs ts bs cn x2 x4 x6 y0 = some rv → va_P G vwCl [(h, .inr (3, [.ref e0, .ref r0])), (e0, .inr (0, [.ref a1, .ref a2, .ref a3, .int cn])), (a1, .inl (cI, 32, .inl qs)), (a2, .inl (cI, 33, .inl ts)), (a3, .inl (cI, 33, .inl bs)), (r0, .inr (2, [.ref a4])), (a4, .inl (cI, 201, .inl mo))] H → va_S A s.heap H locs → lv_has ls 12 [(2, .long x2), (4, .long x4), (6, .long x6)] → W p l e (headSpec wsX3_sawteeth ({ frames := 1, cells := 0, slots := 0, locals := 20 })).room s m ([.ref h].toArray) below meth c H locs 0 0 (Qf rv) (F0 m 130 ls [.long y0]) := by
    intro   x2 x4 x6 y0 H locs ls hf hP hS hl
    unfold fX3_sawteeth_J130 at hf
    refine lv_lstore (lv' := [(10, .long y0), (2, .long x2), (4, .long x4), (6, .long x6)]) hx hb dX3_sawteeth_130 hl (by decide) rfl (fun ls hl => ?_)
    refine lv_lload hx hb dX3_sawteeth_132 (lv_at hl 3 rfl) ?_
    refine lv_lload hx hb dX3_sawteeth_134 (lv_at hl 2 rfl) ?_
    refine lv_lload_n hx hb dX3_sawteeth_136 rfl (lv_at hl 1 rfl) ?_
    refine lv_lmul hx hb dX3_sawteeth_137 ?_
    refine lv_ladd hx hb dX3_sawteeth_138 ?_
    refine lv_lload hx hb dX3_sawteeth_139 (lv_at hl 0 rfl) ?_
    refine lv_ladd hx hb dX3_sawteeth_141 ?_
    refine lv_ldc2 hx hb hown w6 dX3_sawteeth_142 ?_
    obtain ⟨hz145, hf⟩ := ckL_s hf
    refine lv_ldiv hx hb dX3_sawteeth_145 hz145 ?_
    refine qf_s (Qf := Qf) hf ?_
    rw [hQf]
    exact W.lret hx hb hr (fun t ht hW => ⟨⟨_, (), rfl, rfl, trivial⟩, hS.F ht⟩) hS.2.2 dX3_sawteeth_146
  have J56 : ∀ (k15 : Int32 → Int64 → Int32 → Option (Int64)) (hk15 : ∀ (x1 : Int32) (x2 : Int64) (x4 : Int32) (H : Heap) (locs : List Loc) (ls : Array Slot), k15 x1 x2 x4 = some rv → va_P G vwCl [(h, .inr (3, [.ref e0, .ref r0])), (e0, .inr (0, [.ref a1, .ref a2, .ref a3, .int cn])), (a1, .inl (cI, 32, .inl qs)), (a2, .inl (cI, 33, .inl ts)), (a3, .inl (cI, 33, .inl bs)), (r0, .inr (2, [.ref a4])), (a4, .inl (cI, 201, .inl mo))] H → va_S A s.heap H locs → lv_has ls 12 [(0, .ref h), (1, .int x1), (2, .long x2), (4, .int x4)] → W p l e (headSpec wsX3_sawteeth ({ frames := 1, cells := 0, slots := 0, locals := 20 })).room s m ([.ref h].toArray) below meth c H locs 0 0 (Qf rv) (F0 m 15 ls [])) (x1 : Int32) (x4 : Int32) (y0 : Int64) (y1 : Int64) (H : Heap) (locs : List Loc) (ls : Array Slot), fX3_sawteeth_J56 k15 qs ts bs cn x1 x4 y0 y1 = some rv → va_P G vwCl [(h, .inr (3, [.ref e0, .ref r0])), (e0, .inr (0, [.ref a1, .ref a2, .ref a3, .int cn])), (a1, .inl (cI, 32, .inl qs)), (a2, .inl (cI, 33, .inl ts)), (a3, .inl (cI, 33, .inl bs)), (r0, .inr (2, [.ref a4])), (a4, .inl (cI, 201, .inl mo))] H → va_S A s.heap H locs → lv_has ls 12 [(0, .ref h), (1, .int x1), (4, .int x4)] → W p l e (headSpec wsX3_sawteeth ({ frames := 1, cells := 0, slots := 0, locals := 20 })).room s m ([.ref h].toArray) below meth c H locs 0 0 (Qf rv) (F0 m 56 ls [.long y1, .long y0]) := by
    intro k15 hk15  x1 x4 y0 y1 H locs ls hf hP hS hl
    unfold fX3_sawteeth_J56 at hf
    refine lv_ladd hx hb dX3_sawteeth_56 ?_
    refine lv_topl (fun v57 ev57 => ?_)
    have hf := nm_s ev57 hf
    refine lv_lstore_n (lv' := [(2, .long v57), (0, .ref h), (1, .int x1), (4, .int x4)]) hx hb dX3_sawteeth_57 rfl hl (by decide) rfl (fun ls hl => ?_)
    obtain ⟨v58, ev58⟩ : ∃ y : Int32, y = x4 + 1 := ⟨_, rfl⟩
    have hf := nm_s ev58 hf
    refine lv_iinc (v := v58) (lv' := [(4, .int v58), (2, .long v57), (0, .ref h), (1, .int x1)]) hx hb dX3_sawteeth_58 hl (k := 3) rfl (by rw [ev58]; rfl) (by decide) rfl (fun ls hl => ?_)
    refine lv_goto (tgt := 15) hx hb dX3_sawteeth_61 (by decide) ?_
    exact hk15  x1 v57 v58 _ _ _ hf hP hS (lv_sub hl [2, 3, 1, 0] rfl)
  have B15 : ∀ (k15 : Int32 → Int64 → Int32 → Option (Int64)) (hk15 : ∀ (x1 : Int32) (x2 : Int64) (x4 : Int32) (H : Heap) (locs : List Loc) (ls : Array Slot), k15 x1 x2 x4 = some rv → va_P G vwCl [(h, .inr (3, [.ref e0, .ref r0])), (e0, .inr (0, [.ref a1, .ref a2, .ref a3, .int cn])), (a1, .inl (cI, 32, .inl qs)), (a2, .inl (cI, 33, .inl ts)), (a3, .inl (cI, 33, .inl bs)), (r0, .inr (2, [.ref a4])), (a4, .inl (cI, 201, .inl mo))] H → va_S A s.heap H locs → lv_has ls 12 [(0, .ref h), (1, .int x1), (2, .long x2), (4, .int x4)] → W p l e (headSpec wsX3_sawteeth ({ frames := 1, cells := 0, slots := 0, locals := 20 })).room s m ([.ref h].toArray) below meth c H locs 0 0 (Qf rv) (F0 m 15 ls [])) (x1 : Int32) (x2 : Int64) (x4 : Int32) (H : Heap) (locs : List Loc) (ls : Array Slot), fX3_sawteeth_B15 k15 qs ts bs cn x1 x2 x4 = some rv → va_P G vwCl [(h, .inr (3, [.ref e0, .ref r0])), (e0, .inr (0, [.ref a1, .ref a2, .ref a3, .int cn])), (a1, .inl (cI, 32, .inl qs)), (a2, .inl (cI, 33, .inl ts)), (a3, .inl (cI, 33, .inl bs)), (r0, .inr (2, [.ref a4])), (a4, .inl (cI, 201, .inl mo))] H → va_S A s.heap H locs → lv_has ls 12 [(0, .ref h), (1, .int x1), (2, .long x2), (4, .int x4)] → W p l e (headSpec wsX3_sawteeth ({ frames := 1, cells := 0, slots := 0, locals := 20 })).room s m ([.ref h].toArray) below meth c H locs 0 0 (Qf rv) (F0 m 15 ls []) := by
    intro k15 hk15  x1 x2 x4 H locs ls hf hP hS hl
    unfold fX3_sawteeth_B15 at hf
    refine lv_iload hx hb dX3_sawteeth_15 (lv_at hl 3 rfl) ?_
    refine lv_iload_n hx hb dX3_sawteeth_17 rfl (lv_at hl 1 rfl) ?_
    refine lv_icmp_gt (tgt := 64) hx hb dX3_sawteeth_18 (by decide) (fun c18 => ?_) (fun c18 => ?_)
    · have hf := it_t c18 hf
      refine lv_aload_n hx hb dX3_sawteeth_64 rfl (lv_at hl 0 rfl) ?_
      refine va_get (D := G) (ci := 3) (v := .ref e0) (C := RX3) (T := TX3) (N := 2) hx hb hts hinX3 hown hK.1 hP 0 rfl rfl 0 (by decide) w0 (fun _ h9 => h9) rfl dX3_sawteeth_65 ?_
      obtain ⟨r68, hv68, hf⟩ := bd1_s hf
      refine roVi (As := []) (rest := []) ⟨hx, hb, hml, hown, hts⟩ (zX0_bottom l G cI _ e0 a1 a2 a3 qs ts bs cn  hv68) (cwV 0 hts gX3_sawteeth_X0_bottom rfl rfl rfl (by decide +kernel) ⟨Nat.le_of_ble_eq_true rfl, Nat.le_of_ble_eq_true rfl⟩) hK hP (hP.sub [1, 2, 3, 4] rfl) rfl rfl rfl hl.1 rfl (Nat.le_of_ble_eq_true rfl) dX3_sawteeth_68 ⟨Nat.le_of_ble_eq_true rfl, Nat.le_of_ble_eq_true rfl⟩ hS hA (fun H locs hP hz68 hS => ?_)
      refine lv_i2l hx hb dX3_sawteeth_71 rfl ?_
      refine lv_topl (fun v72 ev72 => ?_)
      have hf := nm_s ev72 hf
      refine lv_lstore (lv' := [(4, .long v72), (0, .ref h), (1, .int x1), (2, .long x2)]) hx hb dX3_sawteeth_72 hl (by decide) rfl (fun ls hl => ?_)
      refine lv_aload_n hx hb dX3_sawteeth_74 rfl (lv_at hl 1 rfl) ?_
      refine va_get (D := G) (ci := 3) (v := .ref e0) (C := RX3) (T := TX3) (N := 2) hx hb hts hinX3 hown hK.1 hP 0 rfl rfl 0 (by decide) w0 (fun _ h9 => h9) rfl dX3_sawteeth_75 ?_
      obtain ⟨r78, hv78, hf⟩ := bd1_s hf
      refine roVi (As := []) (rest := []) ⟨hx, hb, hml, hown, hts⟩ (zX0_top l G cI _ e0 a1 a2 a3 qs ts bs cn  hv78) (cwV 0 hts gX3_sawteeth_X0_top rfl rfl rfl (by decide +kernel) ⟨Nat.le_of_ble_eq_true rfl, Nat.le_of_ble_eq_true rfl⟩) hK hP (hP.sub [1, 2, 3, 4] rfl) rfl rfl rfl hl.1 rfl (Nat.le_of_ble_eq_true rfl) dX3_sawteeth_78 ⟨Nat.le_of_ble_eq_true rfl, Nat.le_of_ble_eq_true rfl⟩ hS hA (fun H locs hP hz78 hS => ?_)
      refine lv_i2l hx hb dX3_sawteeth_81 rfl ?_
      refine lv_aload_n hx hb dX3_sawteeth_82 rfl (lv_at hl 1 rfl) ?_
      refine va_get (D := G) (ci := 3) (v := .ref e0) (C := RX3) (T := TX3) (N := 2) hx hb hts hinX3 hown hK.1 hP 0 rfl rfl 0 (by decide) w0 (fun _ h9 => h9) rfl dX3_sawteeth_83 ?_
      refine va_get (D := G) (ci := 0) (v := .ref a1) (C := RX0) (T := TX0) (N := 4) hx hb hts hinX0 hown hK.1 hP 1 rfl rfl 0 (by decide) w4 (fun _ h9 => h9) rfl dX3_sawteeth_86 ?_
      refine lv_iconst (v := 0) hx hb dX3_sawteeth_89 (by decide) ?_
      obtain ⟨hi90, hf⟩ := ckI_s hf
      refine va_iald hx hb hK.1 hP 2 0 rfl rfl hi90 dX3_sawteeth_90 ?_
      refine lv_i2l hx hb dX3_sawteeth_91 rfl ?_
      refine lv_lload hx hb dX3_sawteeth_92 (lv_at hl 0 rfl) ?_
      refine lv_lmul hx hb dX3_sawteeth_94 ?_
      refine lv_lsub hx hb dX3_sawteeth_95 ?_
      refine lv_topl (fun v96 ev96 => ?_)
      have hf := nm_s ev96 hf
      refine lv_lstore (lv' := [(6, .long v96), (4, .long v72), (0, .ref h), (1, .int x1), (2, .long x2)]) hx hb dX3_sawteeth_96 hl (by decide) rfl (fun ls hl => ?_)
      refine lv_aload_n hx hb dX3_sawteeth_98 rfl (lv_at hl 2 rfl) ?_
      refine va_get (D := G) (ci := 3) (v := .ref e0) (C := RX3) (T := TX3) (N := 2) hx hb hts hinX3 hown hK.1 hP 0 rfl rfl 0 (by decide) w0 (fun _ h9 => h9) rfl dX3_sawteeth_99 ?_
      obtain ⟨r102, hv102, hf⟩ := bd1_s hf
      refine roVi (As := []) (rest := []) ⟨hx, hb, hml, hown, hts⟩ (zX0_bottomBefore l G cI _ e0 a1 a2 a3 qs ts bs cn  hv102) (cwV 0 hts gX3_sawteeth_X0_bottomBefore rfl rfl rfl (by decide +kernel) ⟨Nat.le_of_ble_eq_true rfl, Nat.le_of_ble_eq_true rfl⟩) hK hP (hP.sub [1, 2, 3, 4] rfl) rfl rfl rfl hl.1 rfl (Nat.le_of_ble_eq_true rfl) dX3_sawteeth_102 ⟨Nat.le_of_ble_eq_true rfl, Nat.le_of_ble_eq_true rfl⟩ hS hA (fun H locs hP hz102 hS => ?_)
      refine lv_i2l hx hb dX3_sawteeth_105 rfl ?_
      refine lv_topl (fun v106 ev106 => ?_)
      have hf := nm_s ev106 hf
      refine lv_lstore (lv' := [(8, .long v106), (6, .long v96), (4, .long v72), (0, .ref h), (1, .int x1), (2, .long x2)]) hx hb dX3_sawteeth_106 hl (by decide) rfl (fun ls hl => ?_)
      refine lv_iload_n hx hb dX3_sawteeth_108 rfl (lv_at hl 4 rfl) ?_
      refine lv_iconst (v := 2) hx hb dX3_sawteeth_109 (by decide) ?_
      obtain ⟨hz110, hf⟩ := ckZ_s hf
      refine lv_irem hx hb dX3_sawteeth_110 hz110 ?_
      refine lv_iconst (v := 1) hx hb dX3_sawteeth_111 (by decide) ?_
      refine lv_icmp_ne (tgt := 127) hx hb dX3_sawteeth_112 (by decide) (fun c112 => ?_) (fun c112 => ?_)
      · have hf := it_f c112 hf
        refine lv_lload hx hb dX3_sawteeth_127 (lv_at hl 0 rfl) ?_
        refine lv_lneg hx hb dX3_sawteeth_129 ?_
        exact J130   x2 v72 v96 (-v106) _ _ _ hf hP hS (lv_sub hl [5, 2, 1] rfl)
      · have hf := it_t c112 hf
        refine lv_lload hx hb dX3_sawteeth_115 (lv_at hl 0 rfl) ?_
        refine lv_ldc2 hx hb hown w5 dX3_sawteeth_117 ?_
        refine lv_lload hx hb dX3_sawteeth_120 (lv_at hl 2 rfl) ?_
        refine lv_lmul hx hb dX3_sawteeth_122 ?_
        refine lv_lsub hx hb dX3_sawteeth_123 ?_
        refine lv_goto (tgt := 130) hx hb dX3_sawteeth_124 (by decide) ?_
        exact J130   x2 v72 v96 (v106 - (3 * v72)) _ _ _ hf hP hS (lv_sub hl [5, 2, 1] rfl)
    · have hf := it_f c18 hf
      refine lv_lload_n hx hb dX3_sawteeth_21 rfl (lv_at hl 2 rfl) ?_
      refine lv_iload hx hb dX3_sawteeth_22 (lv_at hl 3 rfl) ?_
      refine lv_iconst (v := 2) hx hb dX3_sawteeth_24 (by decide) ?_
      obtain ⟨hz25, hf⟩ := ckZ_s hf
      refine lv_irem hx hb dX3_sawteeth_25 hz25 ?_
      refine lv_iconst (v := 1) hx hb dX3_sawteeth_26 (by decide) ?_
      refine lv_icmp_ne (tgt := 44) hx hb dX3_sawteeth_27 (by decide) (fun c27 => ?_) (fun c27 => ?_)
      · have hf := it_f c27 hf
        refine lv_aload_n hx hb dX3_sawteeth_44 rfl (lv_at hl 0 rfl) ?_
        refine va_get (D := G) (ci := 3) (v := .ref e0) (C := RX3) (T := TX3) (N := 2) hx hb hts hinX3 hown hK.1 hP 0 rfl rfl 0 (by decide) w0 (fun _ h9 => h9) rfl dX3_sawteeth_45 ?_
        refine va_get (D := G) (ci := 0) (v := .ref a1) (C := RX0) (T := TX0) (N := 4) hx hb hts hinX0 hown hK.1 hP 1 rfl rfl 0 (by decide) w4 (fun _ h9 => h9) rfl dX3_sawteeth_48 ?_
        refine lv_iload hx hb dX3_sawteeth_51 (lv_at hl 3 rfl) ?_
        obtain ⟨hi53, hf⟩ := ckI_s hf
        refine va_iald hx hb hK.1 hP 2 0 rfl rfl hi53 dX3_sawteeth_53 ?_
        refine lv_ineg hx hb dX3_sawteeth_54 ?_
        refine lv_i2l hx hb dX3_sawteeth_55 rfl ?_
        exact J56 k15 hk15  x1 x4 x2 (Int32.toInt64 (-(qs (Int32.toNatClampNeg x4)))) _ _ _ hf hP hS (lv_sub hl [0, 1, 3] rfl)
      · have hf := it_t c27 hf
        refine lv_aload_n hx hb dX3_sawteeth_30 rfl (lv_at hl 0 rfl) ?_
        refine va_get (D := G) (ci := 3) (v := .ref e0) (C := RX3) (T := TX3) (N := 2) hx hb hts hinX3 hown hK.1 hP 0 rfl rfl 0 (by decide) w0 (fun _ h9 => h9) rfl dX3_sawteeth_31 ?_
        refine va_get (D := G) (ci := 0) (v := .ref a1) (C := RX0) (T := TX0) (N := 4) hx hb hts hinX0 hown hK.1 hP 1 rfl rfl 0 (by decide) w4 (fun _ h9 => h9) rfl dX3_sawteeth_34 ?_
        refine lv_iload hx hb dX3_sawteeth_37 (lv_at hl 3 rfl) ?_
        obtain ⟨hi39, hf⟩ := ckI_s hf
        refine va_iald hx hb hK.1 hP 2 0 rfl rfl hi39 dX3_sawteeth_39 ?_
        refine lv_i2l hx hb dX3_sawteeth_40 rfl ?_
        refine lv_goto (tgt := 56) hx hb dX3_sawteeth_41 (by decide) ?_
        exact J56 k15 hk15  x1 x4 x2 (Int32.toInt64 (qs (Int32.toNatClampNeg x4))) _ _ _ hf hP hS (lv_sub hl [0, 1, 3] rfl)
  have L15 : ∀ (fu : Nat) (x1 : Int32) (x2 : Int64) (x4 : Int32) (H : Heap) (locs : List Loc) (ls : Array Slot), fX3_sawteeth_L15  qs ts bs cn fu x1 x2 x4 = some rv → va_P G vwCl [(h, .inr (3, [.ref e0, .ref r0])), (e0, .inr (0, [.ref a1, .ref a2, .ref a3, .int cn])), (a1, .inl (cI, 32, .inl qs)), (a2, .inl (cI, 33, .inl ts)), (a3, .inl (cI, 33, .inl bs)), (r0, .inr (2, [.ref a4])), (a4, .inl (cI, 201, .inl mo))] H → va_S A s.heap H locs → lv_has ls 12 [(0, .ref h), (1, .int x1), (2, .long x2), (4, .int x4)] → W p l e (headSpec wsX3_sawteeth ({ frames := 1, cells := 0, slots := 0, locals := 20 })).room s m ([.ref h].toArray) below meth c H locs 0 0 (Qf rv) (F0 m 15 ls []) := by
    intro  fu
    induction fu with
    | zero => intro  x1 x2 x4 H locs ls hf; cases hf
    | succ fu ih => intro  x1 x2 x4 H locs ls hf hP hS hl; exact B15 (fX3_sawteeth_L15  qs ts bs cn fu) ih  x1 x2 x4 _ _ _ hf hP hS hl
  have hl := lv_entry ([.ref h]) (n := 12) (Nat.le_of_ble_eq_true rfl)
  rw [lg_entry_eq]
  generalize (lg_sl ([.ref h]) ++ List.replicate (12 - (lg_sl ([.ref h])).length) Slot.unset).toArray = ls at hl ⊢
  have hl : lv_has ls 12 [(0, .ref h)] := hl
  unfold fX3_sawteeth at hf
  refine lv_aload_n hx hb dX3_sawteeth_0 rfl (lv_at hl 0 rfl) ?_
  refine va_get (D := G) (ci := 3) (v := .ref e0) (C := RX3) (T := TX3) (N := 2) hx hb hts hinX3 hown hK.1 hP 0 rfl rfl 0 (by decide) w0 (fun _ h9 => h9) rfl dX3_sawteeth_1 ?_
  refine va_get (D := G) (ci := 0) (v := .int cn) (C := RX0) (T := TX0) (N := 4) hx hb hts hinX0 hown hK.1 hP 1 rfl rfl 3 (by decide) w2 (fun _ h9 => h9) rfl dX3_sawteeth_4 ?_
  refine lv_iconst (v := 1) hx hb dX3_sawteeth_7 (by decide) ?_
  refine lv_isub hx hb dX3_sawteeth_8 ?_
  refine lv_topi (fun v9 ev9 => ?_)
  have hf := nm_s ev9 hf
  refine lv_istore_n (lv' := [(1, .int v9), (0, .ref h)]) hx hb dX3_sawteeth_9 rfl hl (by decide) rfl (fun ls hl => ?_)
  refine lv_lconst (v := 0) hx hb dX3_sawteeth_10 (by decide) ?_
  refine lv_lstore_n (lv' := [(2, .long 0), (1, .int v9), (0, .ref h)]) hx hb dX3_sawteeth_11 rfl hl (by decide) rfl (fun ls hl => ?_)
  refine lv_iconst (v := 1) hx hb dX3_sawteeth_12 (by decide) ?_
  refine lv_istore (lv' := [(4, .int 1), (2, .long 0), (1, .int v9), (0, .ref h)]) hx hb dX3_sawteeth_13 hl (by decide) rfl (fun ls hl => ?_)
  exact L15  FU  v9 0 1 _ _ _ hf hP hS (lv_sub hl [3, 2, 1, 0] rfl)
def fX3_check (qs : Nat → Int32) (ts : Nat → Int32) (bs : Nat → Int32) (cn : Int32) : Option (Int32) :=
  bd1 (fX0_termsMakeIt qs ts bs cn) fun r4 =>
  if r4 = 0 then
    some 0
  else
    bd1 (fX0_convergentsAreClose ts bs cn) fun r14 =>
    if r14 = 0 then
      some 0
    else
      bd1 (fX0_wayLeadsToIt qs ts bs cn) fun r24 =>
      if r24 = 0 then
        some 0
      else
        some 1
set_option maxHeartbeats 4000000 in
set_option maxRecDepth 100000 in
theorem zX3_check (l : Launch) (G : va_G) (cI : ClassId) (sz : Nat) (h e0 a1 a2 a3 r0 a4 : Nat) (qs : Nat → Int32) (ts : Nat → Int32) (bs : Nat → Int32) (cn : Int32) (mo : Nat → Int32) {rv : Int32} (hf : fX3_check qs ts bs cn = some rv) : mRi l yX3_check wsX3_check ({ frames := 3, cells := 0, slots := 0, locals := 74 }) [.ref h] G cI [(h, .inr (3, [.ref e0, .ref r0])), (e0, .inr (0, [.ref a1, .ref a2, .ref a3, .int cn])), (a1, .inl (cI, 32, .inl qs)), (a2, .inl (cI, 33, .inl ts)), (a3, .inl (cI, 33, .inl bs)), (r0, .inr (2, [.ref a4])), (a4, .inl (cI, 201, .inl mo))] sz rv := by
  refine Met.ofW (cc := cX3_check) (maxL := 1) (ret := (some .int)) (by decide) rfl ?_
  intro p e s m args below meth c s₁ B hml hv
  obtain ⟨rfl, hsz, hP, hK⟩ := hv
  have hx := B.exec
  have hb := B.bytes
  have hr := B.returns
  have hts := atoms_spec (ws := wsX3_check) B.pre
  have hown : s.vm.findClass RX3 = some m.cls := findClass_of_methodNamed B.named
  have hlocks := B.notSynchronized
  subst hsz
  generalize hAe : va_A [] s.heap.size = A
  have hA : ∀ q : Nat, s.heap.size ≤ q → A q := fun q h => by rw [← hAe]; exact Or.inr h
  have hS : va_S A s.heap s.heap [] := va_S.rf
  have w0 := hts (.fieldLink RX3 10 "SternDesk" "hand" "LSternDesk$Expansion;") (by decide +kernel)
  have hinX3 : ∀ w ∈ u_ws RX3 TX3 2, w ∈ wsX3_check := by decide +kernel
  obtain ⟨Qf, hQf⟩ : ∃ f : Int32 → State → Prop, f = fun z => MQ below (va_Qi (fun (r : Int32) (_ : Unit) => r = z) (fun _ _ => True) A) ([.ref h].toArray) s 0 0 A := ⟨_, rfl⟩
  suffices hgo : W p l e (headSpec wsX3_check ({ frames := 3, cells := 0, slots := 0, locals := 74 })).room s m ([.ref h].toArray) below meth c s.heap [] 0 0 (Qf rv) (entryFrame m ([.ref h].toArray) 1) by rw [hQf] at hgo; exact hgo
  have hl := lv_entry ([.ref h]) (n := 1) (Nat.le_of_ble_eq_true rfl)
  rw [lg_entry_eq]
  generalize (lg_sl ([.ref h]) ++ List.replicate (1 - (lg_sl ([.ref h])).length) Slot.unset).toArray = ls at hl ⊢
  have hl : lv_has ls 1 [(0, .ref h)] := hl
  unfold fX3_check at hf
  refine lv_aload_n hx hb dX3_check_0 rfl (lv_at hl 0 rfl) ?_
  refine va_get (D := G) (ci := 3) (v := .ref e0) (C := RX3) (T := TX3) (N := 2) hx hb hts hinX3 hown hK.1 hP 0 rfl rfl 0 (by decide) w0 (fun _ h9 => h9) rfl dX3_check_1 ?_
  obtain ⟨r4, hv4, hf⟩ := bd1_s hf
  refine roVi (As := []) (rest := []) ⟨hx, hb, hml, hown, hts⟩ (zX0_termsMakeIt l G cI _ e0 a1 a2 a3 qs ts bs cn  hv4) (cwV 0 hts gX3_check_X0_termsMakeIt rfl rfl rfl (by decide +kernel) ⟨Nat.le_of_ble_eq_true rfl, Nat.le_of_ble_eq_true rfl⟩) hK hP (hP.sub [1, 2, 3, 4] rfl) rfl rfl rfl hl.1 rfl (Nat.le_of_ble_eq_true rfl) dX3_check_4 ⟨Nat.le_of_ble_eq_true rfl, Nat.le_of_ble_eq_true rfl⟩ hS hA (fun H locs hP hz4 hS => ?_)
  refine lv_if_eq (tgt := 34) hx hb dX3_check_7 (by decide) (fun c7 => ?_) (fun c7 => ?_)
  · have hf := it_t c7 hf
    refine lv_iconst (v := 0) hx hb dX3_check_34 (by decide) ?_
    refine qf_s (Qf := Qf) hf ?_
    rw [hQf]
    exact W.iret hx hb hr (fun t ht hW => ⟨⟨_, (), rfl, rfl, trivial⟩, hS.F ht⟩) hS.2.2 dX3_check_35
  · have hf := it_f c7 hf
    refine lv_aload_n hx hb dX3_check_10 rfl (lv_at hl 0 rfl) ?_
    refine va_get (D := G) (ci := 3) (v := .ref e0) (C := RX3) (T := TX3) (N := 2) hx hb hts hinX3 hown hK.1 hP 0 rfl rfl 0 (by decide) w0 (fun _ h9 => h9) rfl dX3_check_11 ?_
    obtain ⟨r14, hv14, hf⟩ := bd1_s hf
    refine roVi (As := []) (rest := []) ⟨hx, hb, hml, hown, hts⟩ (zX0_convergentsAreClose l G cI _ e0 a1 a2 a3 qs ts bs cn  hv14) (cwV 0 hts gX3_check_X0_convergentsAreClose rfl rfl rfl (by decide +kernel) ⟨Nat.le_of_ble_eq_true rfl, Nat.le_of_ble_eq_true rfl⟩) hK hP (hP.sub [1, 2, 3, 4] rfl) rfl rfl rfl hl.1 rfl (Nat.le_of_ble_eq_true rfl) dX3_check_14 ⟨Nat.le_of_ble_eq_true rfl, Nat.le_of_ble_eq_true rfl⟩ hS hA (fun H locs hP hz14 hS => ?_)
    refine lv_if_eq (tgt := 34) hx hb dX3_check_17 (by decide) (fun c17 => ?_) (fun c17 => ?_)
    · have hf := it_t c17 hf
      refine lv_iconst (v := 0) hx hb dX3_check_34 (by decide) ?_
      refine qf_s (Qf := Qf) hf ?_
      rw [hQf]
      exact W.iret hx hb hr (fun t ht hW => ⟨⟨_, (), rfl, rfl, trivial⟩, hS.F ht⟩) hS.2.2 dX3_check_35
    · have hf := it_f c17 hf
      refine lv_aload_n hx hb dX3_check_20 rfl (lv_at hl 0 rfl) ?_
      refine va_get (D := G) (ci := 3) (v := .ref e0) (C := RX3) (T := TX3) (N := 2) hx hb hts hinX3 hown hK.1 hP 0 rfl rfl 0 (by decide) w0 (fun _ h9 => h9) rfl dX3_check_21 ?_
      obtain ⟨r24, hv24, hf⟩ := bd1_s hf
      refine roVi (As := []) (rest := []) ⟨hx, hb, hml, hown, hts⟩ (zX0_wayLeadsToIt l G cI _ e0 a1 a2 a3 qs ts bs cn  hv24) (cwV 0 hts gX3_check_X0_wayLeadsToIt rfl rfl rfl (by decide +kernel) ⟨Nat.le_of_ble_eq_true rfl, Nat.le_of_ble_eq_true rfl⟩) hK hP (hP.sub [1, 2, 3, 4] rfl) rfl rfl rfl hl.1 rfl (Nat.le_of_ble_eq_true rfl) dX3_check_24 ⟨Nat.le_of_ble_eq_true rfl, Nat.le_of_ble_eq_true rfl⟩ hS hA (fun H locs hP hz24 hS => ?_)
      refine lv_if_eq (tgt := 34) hx hb dX3_check_27 (by decide) (fun c27 => ?_) (fun c27 => ?_)
      · have hf := it_t c27 hf
        refine lv_iconst (v := 0) hx hb dX3_check_34 (by decide) ?_
        refine qf_s (Qf := Qf) hf ?_
        rw [hQf]
        exact W.iret hx hb hr (fun t ht hW => ⟨⟨_, (), rfl, rfl, trivial⟩, hS.F ht⟩) hS.2.2 dX3_check_35
      · have hf := it_f c27 hf
        refine lv_iconst (v := 1) hx hb dX3_check_30 (by decide) ?_
        refine lv_goto (tgt := 35) hx hb dX3_check_31 (by decide) ?_
        refine qf_s (Qf := Qf) hf ?_
        rw [hQf]
        exact W.iret hx hb hr (fun t ht hW => ⟨⟨_, (), rfl, rfl, trivial⟩, hS.F ht⟩) hS.2.2 dX3_check_35

def fX4_thrown (mth : Int32) : Option (Int32) :=
  some mth
set_option maxHeartbeats 4000000 in
set_option maxRecDepth 100000 in
theorem zX4_thrown (l : Launch) (G : va_G) (cI : ClassId) (sz : Nat) (h a5 a6 : Nat) (mth : Int32) (mtp : Int32) (mbt : Int32) (mmn : Int32) (mte : Nat → Int32) (mrs : Int32) (mru : Nat → Int32) (mlt : Int64) (mlb : Int64) (mht : Int64) (mhb : Int64) {rv : Int32} (hf : fX4_thrown mth = some rv) : mRi l yX4_thrown wsX4_thrown ({ frames := 0, cells := 0, slots := 0, locals := 0 }) [.ref h] G cI [(h, .inr (4, [.int mth, .int mtp, .int mbt, .int mmn, .ref a5, .int mrs, .ref a6, .long mlt, .long mlb, .long mht, .long mhb])), (a5, .inl (cI, 64, .inl mte)), (a6, .inl (cI, 64, .inl mru))] sz rv := by
  refine Met.ofW (cc := cX4_thrown) (maxL := 1) (ret := (some .int)) (by decide) rfl ?_
  intro p e s m args below meth c s₁ B hml hv
  obtain ⟨rfl, hsz, hP, hK⟩ := hv
  have hx := B.exec
  have hb := B.bytes
  have hr := B.returns
  have hts := atoms_spec (ws := wsX4_thrown) B.pre
  have hown : s.vm.findClass RX4 = some m.cls := findClass_of_methodNamed B.named
  have hlocks := B.notSynchronized
  subst hsz
  generalize hAe : va_A [] s.heap.size = A
  have hA : ∀ q : Nat, s.heap.size ≤ q → A q := fun q h => by rw [← hAe]; exact Or.inr h
  have hS : va_S A s.heap s.heap [] := va_S.rf
  have w0 := hts (.fieldLink RX4 23 "SternDeskModel" "thrown" "I") (by decide +kernel)
  have hinX4 : ∀ w ∈ u_ws RX4 TX4 11, w ∈ wsX4_thrown := by decide +kernel
  obtain ⟨Qf, hQf⟩ : ∃ f : Int32 → State → Prop, f = fun z => MQ below (va_Qi (fun (r : Int32) (_ : Unit) => r = z) (fun _ _ => True) A) ([.ref h].toArray) s 0 0 A := ⟨_, rfl⟩
  suffices hgo : W p l e (headSpec wsX4_thrown ({ frames := 0, cells := 0, slots := 0, locals := 0 })).room s m ([.ref h].toArray) below meth c s.heap [] 0 0 (Qf rv) (entryFrame m ([.ref h].toArray) 1) by rw [hQf] at hgo; exact hgo
  have hl := lv_entry ([.ref h]) (n := 1) (Nat.le_of_ble_eq_true rfl)
  rw [lg_entry_eq]
  generalize (lg_sl ([.ref h]) ++ List.replicate (1 - (lg_sl ([.ref h])).length) Slot.unset).toArray = ls at hl ⊢
  have hl : lv_has ls 1 [(0, .ref h)] := hl
  unfold fX4_thrown at hf
  refine lv_aload_n hx hb dX4_thrown_0 rfl (lv_at hl 0 rfl) ?_
  refine va_get (D := G) (ci := 4) (v := .int mth) (C := RX4) (T := TX4) (N := 11) hx hb hts hinX4 hown hK.1 hP 0 rfl rfl 0 (by decide) w0 (fun _ h9 => h9) rfl dX4_thrown_1 ?_
  refine qf_s (Qf := Qf) hf ?_
  rw [hQf]
  exact W.iret hx hb hr (fun t ht hW => ⟨⟨_, (), rfl, rfl, trivial⟩, hS.F ht⟩) hS.2.2 dX4_thrown_4
def fX4_common_B6 (k6 : Int64 → Int64 → Option (Int64)) (x4 : Int64) (x6 : Int64) : Option (Int64) :=
  if (lg_cmp x6 0) = 0 then
    some x4
  else
    ckL x6 <|
    nm (x4 - x4 / x6 * x6) fun v18 =>
    k6 x6 v18
def fX4_common_L6 : Nat → Int64 → Int64 → Option (Int64)
  | 0, _, _ => none
  | n + 1, x4, x6 => fX4_common_B6 (fX4_common_L6   n)  x4 x6
def fX4_common (p0 : Int64) (p2 : Int64) : Option (Int64) :=
  fX4_common_L6   FU p0 p2
set_option maxHeartbeats 4000000 in
set_option maxRecDepth 100000 in
theorem zX4_common (l : Launch) (G : va_G) (cI : ClassId) (sz : Nat) (p0 : Int64) (p2 : Int64) {rv : Int64} (hf : fX4_common p0 p2 = some rv) : mRl l yX4_common wsX4_common ({ frames := 0, cells := 0, slots := 0, locals := 0 }) [.long p0, .long p2] G cI [] sz rv := by
  refine Met.ofW (cc := cX4_common) (maxL := 10) (ret := (some .long)) (by decide) rfl ?_
  intro p e s m args below meth c s₁ B hml hv
  obtain ⟨rfl, hsz, hP, hK⟩ := hv
  have hx := B.exec
  have hb := B.bytes
  have hr := B.returns
  have hts := atoms_spec (ws := wsX4_common) B.pre
  have hown : s.vm.findClass RX4 = some m.cls := findClass_of_methodNamed B.named
  have hlocks := B.notSynchronized
  subst hsz
  generalize hAe : va_A [] s.heap.size = A
  have hA : ∀ q : Nat, s.heap.size ≤ q → A q := fun q h => by rw [← hAe]; exact Or.inr h
  have hS : va_S A s.heap s.heap [] := va_S.rf
  obtain ⟨Qf, hQf⟩ : ∃ f : Int64 → State → Prop, f = fun z => MQ below (va_Ql (fun (r : Int64) (_ : Unit) => r = z) (fun _ _ => True) A) ([.long p0, .long p2].toArray) s 0 0 A := ⟨_, rfl⟩
  suffices hgo : W p l e (headSpec wsX4_common ({ frames := 0, cells := 0, slots := 0, locals := 0 })).room s m ([.long p0, .long p2].toArray) below meth c s.heap [] 0 0 (Qf rv) (entryFrame m ([.long p0, .long p2].toArray) 10) by rw [hQf] at hgo; exact hgo
  have B6 : ∀ (k6 : Int64 → Int64 → Option (Int64)) (hk6 : ∀ (x4 : Int64) (x6 : Int64) (H : Heap) (locs : List Loc) (ls : Array Slot), k6 x4 x6 = some rv → va_P G vwCl [] H → va_S A s.heap H locs → lv_has ls 10 [(4, .long x4), (6, .long x6)] → W p l e (headSpec wsX4_common ({ frames := 0, cells := 0, slots := 0, locals := 0 })).room s m ([.long p0, .long p2].toArray) below meth c H locs 0 0 (Qf rv) (F0 m 6 ls [])) (x4 : Int64) (x6 : Int64) (H : Heap) (locs : List Loc) (ls : Array Slot), fX4_common_B6 k6  x4 x6 = some rv → va_P G vwCl [] H → va_S A s.heap H locs → lv_has ls 10 [(4, .long x4), (6, .long x6)] → W p l e (headSpec wsX4_common ({ frames := 0, cells := 0, slots := 0, locals := 0 })).room s m ([.long p0, .long p2].toArray) below meth c H locs 0 0 (Qf rv) (F0 m 6 ls []) := by
    intro k6 hk6  x4 x6 H locs ls hf hP hS hl
    unfold fX4_common_B6 at hf
    refine lv_lload hx hb dX4_common_6 (lv_at hl 1 rfl) ?_
    refine lv_lconst (v := 0) hx hb dX4_common_8 (by decide) ?_
    refine W.lcmp hx hb dX4_common_9 ?_
    refine lv_if_eq (tgt := 31) hx hb dX4_common_10 (by decide) (fun c10 => ?_) (fun c10 => ?_)
    · have hf := it_t c10 hf
      refine lv_lload hx hb dX4_common_31 (lv_at hl 0 rfl) ?_
      refine qf_s (Qf := Qf) hf ?_
      rw [hQf]
      exact W.lret hx hb hr (fun t ht hW => ⟨⟨_, (), rfl, rfl, trivial⟩, hS.F ht⟩) hS.2.2 dX4_common_33
    · have hf := it_f c10 hf
      refine lv_lload hx hb dX4_common_13 (lv_at hl 0 rfl) ?_
      refine lv_lload hx hb dX4_common_15 (lv_at hl 1 rfl) ?_
      obtain ⟨hz17, hf⟩ := ckL_s hf
      refine lv_lrem hx hb dX4_common_17 hz17 ?_
      refine lv_topl (fun v18 ev18 => ?_)
      have hf := nm_s ev18 hf
      refine lv_lstore (lv' := [(8, .long v18), (4, .long x4), (6, .long x6)]) hx hb dX4_common_18 hl (by decide) rfl (fun ls hl => ?_)
      refine lv_lload hx hb dX4_common_20 (lv_at hl 2 rfl) ?_
      refine lv_lstore (lv' := [(4, .long x6), (8, .long v18), (6, .long x6)]) hx hb dX4_common_22 hl (by decide) rfl (fun ls hl => ?_)
      refine lv_lload hx hb dX4_common_24 (lv_at hl 1 rfl) ?_
      refine lv_lstore (lv' := [(6, .long v18), (4, .long x6), (8, .long v18)]) hx hb dX4_common_26 hl (by decide) rfl (fun ls hl => ?_)
      refine lv_goto (tgt := 6) hx hb dX4_common_28 (by decide) ?_
      exact hk6  x6 v18 _ _ _ hf hP hS (lv_sub hl [1, 0] rfl)
  have L6 : ∀ (fu : Nat) (x4 : Int64) (x6 : Int64) (H : Heap) (locs : List Loc) (ls : Array Slot), fX4_common_L6   fu x4 x6 = some rv → va_P G vwCl [] H → va_S A s.heap H locs → lv_has ls 10 [(4, .long x4), (6, .long x6)] → W p l e (headSpec wsX4_common ({ frames := 0, cells := 0, slots := 0, locals := 0 })).room s m ([.long p0, .long p2].toArray) below meth c H locs 0 0 (Qf rv) (F0 m 6 ls []) := by
    intro  fu
    induction fu with
    | zero => intro  x4 x6 H locs ls hf; cases hf
    | succ fu ih => intro  x4 x6 H locs ls hf hP hS hl; exact B6 (fX4_common_L6   fu) ih  x4 x6 _ _ _ hf hP hS hl
  have hl := lv_entry ([.long p0, .long p2]) (n := 10) (Nat.le_of_ble_eq_true rfl)
  rw [lg_entry_eq]
  generalize (lg_sl ([.long p0, .long p2]) ++ List.replicate (10 - (lg_sl ([.long p0, .long p2])).length) Slot.unset).toArray = ls at hl ⊢
  have hl : lv_has ls 10 [(0, .long p0), (2, .long p2)] := hl
  unfold fX4_common at hf
  refine lv_lload_n hx hb dX4_common_0 rfl (lv_at hl 0 rfl) ?_
  refine lv_lstore (lv' := [(4, .long p0), (0, .long p0), (2, .long p2)]) hx hb dX4_common_1 hl (by decide) rfl (fun ls hl => ?_)
  refine lv_lload_n hx hb dX4_common_3 rfl (lv_at hl 2 rfl) ?_
  refine lv_lstore (lv' := [(6, .long p2), (4, .long p0), (0, .long p0), (2, .long p2)]) hx hb dX4_common_4 hl (by decide) rfl (fun ls hl => ?_)
  exact L6  FU  p0 p2 _ _ _ hf hP hS (lv_sub hl [1, 0] rfl)
def fX4_in (p0 : Int64) (p2 : Int64) (p4 : Int64) : Option (Int32) :=
  if (lg_cmp p0 p2) < 0 then
    some 0
  else
    if 0 < (lg_cmp p0 p4) then
      some 0
    else
      some 1
set_option maxHeartbeats 4000000 in
set_option maxRecDepth 100000 in
theorem zX4_in (l : Launch) (G : va_G) (cI : ClassId) (sz : Nat) (p0 : Int64) (p2 : Int64) (p4 : Int64) {rv : Int32} (hf : fX4_in p0 p2 p4 = some rv) : mRi l yX4_in wsX4_in ({ frames := 0, cells := 0, slots := 0, locals := 0 }) [.long p0, .long p2, .long p4] G cI [] sz rv := by
  refine Met.ofW (cc := cX4_in) (maxL := 6) (ret := (some .boolean)) (by decide) rfl ?_
  intro p e s m args below meth c s₁ B hml hv
  obtain ⟨rfl, hsz, hP, hK⟩ := hv
  have hx := B.exec
  have hb := B.bytes
  have hr := B.returns
  have hts := atoms_spec (ws := wsX4_in) B.pre
  have hown : s.vm.findClass RX4 = some m.cls := findClass_of_methodNamed B.named
  have hlocks := B.notSynchronized
  subst hsz
  generalize hAe : va_A [] s.heap.size = A
  have hA : ∀ q : Nat, s.heap.size ≤ q → A q := fun q h => by rw [← hAe]; exact Or.inr h
  have hS : va_S A s.heap s.heap [] := va_S.rf
  obtain ⟨Qf, hQf⟩ : ∃ f : Int32 → State → Prop, f = fun z => MQ below (va_Qi (fun (r : Int32) (_ : Unit) => r = z) (fun _ _ => True) A) ([.long p0, .long p2, .long p4].toArray) s 0 0 A := ⟨_, rfl⟩
  suffices hgo : W p l e (headSpec wsX4_in ({ frames := 0, cells := 0, slots := 0, locals := 0 })).room s m ([.long p0, .long p2, .long p4].toArray) below meth c s.heap [] 0 0 (Qf rv) (entryFrame m ([.long p0, .long p2, .long p4].toArray) 6) by rw [hQf] at hgo; exact hgo
  have hl := lv_entry ([.long p0, .long p2, .long p4]) (n := 6) (Nat.le_of_ble_eq_true rfl)
  rw [lg_entry_eq]
  generalize (lg_sl ([.long p0, .long p2, .long p4]) ++ List.replicate (6 - (lg_sl ([.long p0, .long p2, .long p4])).length) Slot.unset).toArray = ls at hl ⊢
  have hl : lv_has ls 6 [(0, .long p0), (2, .long p2), (4, .long p4)] := hl
  unfold fX4_in at hf
  refine lv_lload_n hx hb dX4_in_0 rfl (lv_at hl 0 rfl) ?_
  refine lv_lload_n hx hb dX4_in_1 rfl (lv_at hl 1 rfl) ?_
  refine W.lcmp hx hb dX4_in_2 ?_
  refine lv_if_lt (tgt := 17) hx hb dX4_in_3 (by decide) (fun c3 => ?_) (fun c3 => ?_)
  · have hf := it_t c3 hf
    refine lv_iconst (v := 0) hx hb dX4_in_17 (by decide) ?_
    refine qf_s (Qf := Qf) hf ?_
    rw [hQf]
    exact W.zret hx hb hr (by decide) (fun t ht hW => ⟨⟨_, (), rfl, rfl, trivial⟩, hS.F ht⟩) hS.2.2 dX4_in_18
  · have hf := it_f c3 hf
    refine lv_lload_n hx hb dX4_in_6 rfl (lv_at hl 0 rfl) ?_
    refine lv_lload hx hb dX4_in_7 (lv_at hl 2 rfl) ?_
    refine W.lcmp hx hb dX4_in_9 ?_
    refine lv_if_gt (tgt := 17) hx hb dX4_in_10 (by decide) (fun c10 => ?_) (fun c10 => ?_)
    · have hf := it_t c10 hf
      refine lv_iconst (v := 0) hx hb dX4_in_17 (by decide) ?_
      refine qf_s (Qf := Qf) hf ?_
      rw [hQf]
      exact W.zret hx hb hr (by decide) (fun t ht hW => ⟨⟨_, (), rfl, rfl, trivial⟩, hS.F ht⟩) hS.2.2 dX4_in_18
    · have hf := it_f c10 hf
      refine lv_iconst (v := 1) hx hb dX4_in_13 (by decide) ?_
      refine lv_goto (tgt := 18) hx hb dX4_in_14 (by decide) ?_
      refine qf_s (Qf := Qf) hf ?_
      rw [hQf]
      exact W.zret hx hb hr (by decide) (fun t ht hW => ⟨⟨_, (), rfl, rfl, trivial⟩, hS.F ht⟩) hS.2.2 dX4_in_18
def fX4_become (mtp : Int32) (mbt : Int32) (p1 : Int64) (p3 : Int64) : Option (Int32 × Int32) :=
  bd1 (fX4_common p1 p3) fun r2 =>
  ckL r2 <|
  nm (Int64.toInt32 (p1 / r2)) fun v13 =>
  ckL r2 <|
  nm (Int64.toInt32 (p3 / r2)) fun v22 =>
  some (v13, v22)
set_option maxHeartbeats 4000000 in
set_option maxRecDepth 100000 in
theorem zX4_become (l : Launch) (G : va_G) (cI : ClassId) (sz : Nat) (h a5 a6 : Nat) (mth : Int32) (mtp : Int32) (mbt : Int32) (mmn : Int32) (mte : Nat → Int32) (mrs : Int32) (mru : Nat → Int32) (mlt : Int64) (mlb : Int64) (mht : Int64) (mhb : Int64) (p1 : Int64) (p3 : Int64) {o_mtp : Int32} {o_mbt : Int32} (hf : fX4_become mtp mbt p1 p3 = some (o_mtp, o_mbt)) : mMv l yX4_become wsX4_become ({ frames := 1, cells := 0, slots := 0, locals := 29 }) [.ref h, .long p1, .long p3] G cI [(h, .inr (4, [.int mth, .int mtp, .int mbt, .int mmn, .ref a5, .int mrs, .ref a6, .long mlt, .long mlb, .long mht, .long mhb])), (a5, .inl (cI, 64, .inl mte)), (a6, .inl (cI, 64, .inl mru))] sz [(h, .inr (4, [.int mth, .int o_mtp, .int o_mbt, .int mmn, .ref a5, .int mrs, .ref a6, .long mlt, .long mlb, .long mht, .long mhb])), (a5, .inl (cI, 64, .inl mte)), (a6, .inl (cI, 64, .inl mru))] 0 0 := by
  refine Met.ofW (cc := cX4_become) (maxL := 7) (ret := none) (by decide) rfl ?_
  intro p e s m args below meth c s₁ B hml hv
  obtain ⟨rfl, hsz, hP, hK, hD0⟩ := hv
  have hx := B.exec
  have hb := B.bytes
  have hr := B.returns
  have hts := atoms_spec (ws := wsX4_become) B.pre
  have hown : s.vm.findClass RX4 = some m.cls := findClass_of_methodNamed B.named
  have hlocks := B.notSynchronized
  subst hsz
  have hD := hD0.self (sz := s.heap.size)
  generalize hAe : va_A [(h, .inr (4, [.int mth, .int mtp, .int mbt, .int mmn, .ref a5, .int mrs, .ref a6, .long mlt, .long mlb, .long mht, .long mhb])), (a5, .inl (cI, 64, .inl mte)), (a6, .inl (cI, 64, .inl mru))] s.heap.size = A at hD ⊢
  have hA : ∀ q : Nat, s.heap.size ≤ q → A q := fun q h => by rw [← hAe]; exact Or.inr h
  have hS : va_S A s.heap s.heap [] := va_S.rf
  have w0 := hts (.fieldLink RX4 7 "SternDeskModel" "top" "I") (by decide +kernel)
  have hinX4 : ∀ w ∈ u_ws RX4 TX4 11, w ∈ wsX4_become := by decide +kernel
  have w2 := hts (.fieldLink RX4 13 "SternDeskModel" "bottom" "I") (by decide +kernel)
  obtain ⟨Qf, hQf⟩ : ∃ f : (Int32 × Int32) → State → Prop, f = fun z => MQ below (va_Qv (fun (_ : Unit) => True) (fun _ t => va_P G vwCl [(h, .inr (4, [.int mth, .int z.1, .int z.2, .int mmn, .ref a5, .int mrs, .ref a6, .long mlt, .long mlb, .long mht, .long mhb])), (a5, .inl (cI, 64, .inl mte)), (a6, .inl (cI, 64, .inl mru))] t.heap ∧ va_D A [(h, .inr (4, [.int mth, .int z.1, .int z.2, .int mmn, .ref a5, .int mrs, .ref a6, .long mlt, .long mlb, .long mht, .long mhb])), (a5, .inl (cI, 64, .inl mte)), (a6, .inl (cI, 64, .inl mru))]) A) ([.ref h, .long p1, .long p3].toArray) s 0 0 A := ⟨_, rfl⟩
  suffices hgo : W p l e (headSpec wsX4_become ({ frames := 1, cells := 0, slots := 0, locals := 29 })).room s m ([.ref h, .long p1, .long p3].toArray) below meth c s.heap [] 0 0 (Qf (o_mtp, o_mbt)) (entryFrame m ([.ref h, .long p1, .long p3].toArray) 7) by rw [hQf] at hgo; exact hgo
  have hl := lv_entry ([.ref h, .long p1, .long p3]) (n := 7) (Nat.le_of_ble_eq_true rfl)
  rw [lg_entry_eq]
  generalize (lg_sl ([.ref h, .long p1, .long p3]) ++ List.replicate (7 - (lg_sl ([.ref h, .long p1, .long p3])).length) Slot.unset).toArray = ls at hl ⊢
  have hl : lv_has ls 7 [(0, .ref h), (1, .long p1), (3, .long p3)] := hl
  unfold fX4_become at hf
  refine lv_lload_n hx hb dX4_become_0 rfl (lv_at hl 1 rfl) ?_
  refine lv_lload_n hx hb dX4_become_1 rfl (lv_at hl 2 rfl) ?_
  obtain ⟨r2, hv2, hf⟩ := bd1_s hf
  refine roSl (As := [.long p1, .long p3]) (rest := []) ⟨hx, hb, hml, hown, hts⟩ (zX4_common l G cI _ p1 p3 hv2) (va_cwS 2 hts gX4_become_X4_common rfl rfl rfl (by decide +kernel) ⟨Nat.le_of_ble_eq_true rfl, Nat.le_of_ble_eq_true rfl⟩) hK hP rfl hl.1 rfl (Nat.le_of_ble_eq_true rfl) dX4_become_2 ⟨Nat.le_of_ble_eq_true rfl, Nat.le_of_ble_eq_true rfl⟩ hS hA (fun H locs hP hz2 hS => ?_)
  refine lv_lstore (lv' := [(5, .long r2), (0, .ref h), (1, .long p1), (3, .long p3)]) hx hb dX4_become_5 hl (by decide) rfl (fun ls hl => ?_)
  refine lv_aload_n hx hb dX4_become_7 rfl (lv_at hl 1 rfl) ?_
  refine lv_lload_n hx hb dX4_become_8 rfl (lv_at hl 2 rfl) ?_
  refine lv_lload hx hb dX4_become_9 (lv_at hl 0 rfl) ?_
  obtain ⟨hz11, hf⟩ := ckL_s hf
  refine lv_ldiv hx hb dX4_become_11 hz11 ?_
  refine lv_l2i hx hb dX4_become_12 rfl ?_
  refine lv_topi (fun v13 ev13 => ?_)
  have hf := nm_s ev13 hf
  refine va_put (D := G) (ci := 4) (v := .int v13) (ty := .int) (C := RX4) (T := TX4) (N := 11) hx hb hts hinX4 tyX4 tyX4_ok nmX4 hown hK.1 hP hD hS 0 rfl rfl 1 (by decide) w0 (fun _ h9 => h9) rfl (by decide +kernel) rfl rfl (Nat.le_of_ble_eq_true rfl) dX4_become_13 (fun H locs hP hD hS => ?_)
  have hP : va_P G vwCl [(h, .inr (4, [.int mth, .int v13, .int mbt, .int mmn, .ref a5, .int mrs, .ref a6, .long mlt, .long mlb, .long mht, .long mhb])), (a5, .inl (cI, 64, .inl mte)), (a6, .inl (cI, 64, .inl mru))] H := hP
  have hD : va_D A [(h, .inr (4, [.int mth, .int v13, .int mbt, .int mmn, .ref a5, .int mrs, .ref a6, .long mlt, .long mlb, .long mht, .long mhb])), (a5, .inl (cI, 64, .inl mte)), (a6, .inl (cI, 64, .inl mru))] := hD
  refine lv_aload_n hx hb dX4_become_16 rfl (lv_at hl 1 rfl) ?_
  refine lv_lload_n hx hb dX4_become_17 rfl (lv_at hl 3 rfl) ?_
  refine lv_lload hx hb dX4_become_18 (lv_at hl 0 rfl) ?_
  obtain ⟨hz20, hf⟩ := ckL_s hf
  refine lv_ldiv hx hb dX4_become_20 hz20 ?_
  refine lv_l2i hx hb dX4_become_21 rfl ?_
  refine lv_topi (fun v22 ev22 => ?_)
  have hf := nm_s ev22 hf
  refine va_put (D := G) (ci := 4) (v := .int v22) (ty := .int) (C := RX4) (T := TX4) (N := 11) hx hb hts hinX4 tyX4 tyX4_ok nmX4 hown hK.1 hP hD hS 0 rfl rfl 2 (by decide) w2 (fun _ h9 => h9) rfl (by decide +kernel) rfl rfl (Nat.le_of_ble_eq_true rfl) dX4_become_22 (fun H locs hP hD hS => ?_)
  have hP : va_P G vwCl [(h, .inr (4, [.int mth, .int v13, .int v22, .int mmn, .ref a5, .int mrs, .ref a6, .long mlt, .long mlb, .long mht, .long mhb])), (a5, .inl (cI, 64, .inl mte)), (a6, .inl (cI, 64, .inl mru))] H := hP
  have hD : va_D A [(h, .inr (4, [.int mth, .int v13, .int v22, .int mmn, .ref a5, .int mrs, .ref a6, .long mlt, .long mlb, .long mht, .long mhb])), (a5, .inl (cI, 64, .inl mte)), (a6, .inl (cI, 64, .inl mru))] := hD
  refine qf_s (Qf := Qf) hf ?_
  have hP9 : va_P G vwCl [(h, .inr (4, [.int mth, .int v13, .int v22, .int mmn, .ref a5, .int mrs, .ref a6, .long mlt, .long mlb, .long mht, .long mhb])), (a5, .inl (cI, 64, .inl mte)), (a6, .inl (cI, 64, .inl mru))] _ := hP.sub [0, 1, 2] rfl
  have hD9 : va_D A [(h, .inr (4, [.int mth, .int v13, .int v22, .int mmn, .ref a5, .int mrs, .ref a6, .long mlt, .long mlb, .long mht, .long mhb])), (a5, .inl (cI, 64, .inl mte)), (a6, .inl (cI, 64, .inl mru))] := hD.sub [0, 1, 2] (by decide) rfl
  rw [hQf]
  exact W.vret hx hb hr (fun t ht hW => ⟨⟨(), rfl, trivial, by rw [ht]; exact hP9, hD9⟩, hS.F ht⟩) hS.2.2 dX4_become_25
def fX4_take_J30 (mth : Int32) (mtp : Int32) (mbt : Int32) (x1 : Int32) (x2 : Int32) (y1 : Int32) : Option (Int32 × Int32 × Int32) :=
  if y1 = 0 then
    bd2 (fX4_become mtp mbt (Int32.toInt64 x1) (Int32.toInt64 x2)) fun mtp_45 mbt_45 =>
    some (y1, mtp_45, mbt_45)
  else
    some (y1, mtp, mbt)
def fX4_take_J29 (mth : Int32) (mtp : Int32) (mbt : Int32) (x1 : Int32) (x2 : Int32) : Option (Int32 × Int32 × Int32) :=
  fX4_take_J30   mth mtp mbt x1 x2 1
def fX4_take (mth : Int32) (mtp : Int32) (mbt : Int32) (p1 : Int32) (p2 : Int32) : Option (Int32 × Int32 × Int32) :=
  bd1 (fX4_in (Int32.toInt64 p1) 0 100000) fun r7 =>
  if r7 = 0 then
    fX4_take_J29   mth mtp mbt p1 p2
  else
    bd1 (fX4_in (Int32.toInt64 p2) 1 100000) fun r19 =>
    if r19 = 0 then
      fX4_take_J29   mth mtp mbt p1 p2
    else
      fX4_take_J30   mth mtp mbt p1 p2 0
set_option maxHeartbeats 4000000 in
set_option maxRecDepth 100000 in
theorem zX4_take (l : Launch) (G : va_G) (cI : ClassId) (sz : Nat) (h a5 a6 : Nat) (mth : Int32) (mtp : Int32) (mbt : Int32) (mmn : Int32) (mte : Nat → Int32) (mrs : Int32) (mru : Nat → Int32) (mlt : Int64) (mlb : Int64) (mht : Int64) (mhb : Int64) (p1 : Int32) (p2 : Int32) {o_mth : Int32} {o_mtp : Int32} {o_mbt : Int32} (hf : fX4_take mth mtp mbt p1 p2 = some (o_mth, o_mtp, o_mbt)) : mMv l yX4_take wsX4_take ({ frames := 2, cells := 0, slots := 0, locals := 55 }) [.ref h, .int p1, .int p2] G cI [(h, .inr (4, [.int mth, .int mtp, .int mbt, .int mmn, .ref a5, .int mrs, .ref a6, .long mlt, .long mlb, .long mht, .long mhb])), (a5, .inl (cI, 64, .inl mte)), (a6, .inl (cI, 64, .inl mru))] sz [(h, .inr (4, [.int o_mth, .int o_mtp, .int o_mbt, .int mmn, .ref a5, .int mrs, .ref a6, .long mlt, .long mlb, .long mht, .long mhb])), (a5, .inl (cI, 64, .inl mte)), (a6, .inl (cI, 64, .inl mru))] 0 0 := by
  refine Met.ofW (cc := cX4_take) (maxL := 3) (ret := none) (by decide) rfl ?_
  intro p e s m args below meth c s₁ B hml hv
  obtain ⟨rfl, hsz, hP, hK, hD0⟩ := hv
  have hx := B.exec
  have hb := B.bytes
  have hr := B.returns
  have hts := atoms_spec (ws := wsX4_take) B.pre
  have hown : s.vm.findClass RX4 = some m.cls := findClass_of_methodNamed B.named
  have hlocks := B.notSynchronized
  subst hsz
  have hD := hD0.self (sz := s.heap.size)
  generalize hAe : va_A [(h, .inr (4, [.int mth, .int mtp, .int mbt, .int mmn, .ref a5, .int mrs, .ref a6, .long mlt, .long mlb, .long mht, .long mhb])), (a5, .inl (cI, 64, .inl mte)), (a6, .inl (cI, 64, .inl mru))] s.heap.size = A at hD ⊢
  have hA : ∀ q : Nat, s.heap.size ≤ q → A q := fun q h => by rw [← hAe]; exact Or.inr h
  have hS : va_S A s.heap s.heap [] := va_S.rf
  have w0 := hts (.constantLong RX4 30 (100000)) (by decide +kernel)
  have w1 := hts (.fieldLink RX4 23 "SternDeskModel" "thrown" "I") (by decide +kernel)
  have hinX4 : ∀ w ∈ u_ws RX4 TX4 11, w ∈ wsX4_take := by decide +kernel
  obtain ⟨Qf, hQf⟩ : ∃ f : (Int32 × Int32 × Int32) → State → Prop, f = fun z => MQ below (va_Qv (fun (_ : Unit) => True) (fun _ t => va_P G vwCl [(h, .inr (4, [.int z.1, .int z.2.1, .int z.2.2, .int mmn, .ref a5, .int mrs, .ref a6, .long mlt, .long mlb, .long mht, .long mhb])), (a5, .inl (cI, 64, .inl mte)), (a6, .inl (cI, 64, .inl mru))] t.heap ∧ va_D A [(h, .inr (4, [.int z.1, .int z.2.1, .int z.2.2, .int mmn, .ref a5, .int mrs, .ref a6, .long mlt, .long mlb, .long mht, .long mhb])), (a5, .inl (cI, 64, .inl mte)), (a6, .inl (cI, 64, .inl mru))]) A) ([.ref h, .int p1, .int p2].toArray) s 0 0 A := ⟨_, rfl⟩
  suffices hgo : W p l e (headSpec wsX4_take ({ frames := 2, cells := 0, slots := 0, locals := 55 })).room s m ([.ref h, .int p1, .int p2].toArray) below meth c s.heap [] 0 0 (Qf (o_mth, o_mtp, o_mbt)) (entryFrame m ([.ref h, .int p1, .int p2].toArray) 3) by rw [hQf] at hgo; exact hgo
  have J30 : ∀ (mth : Int32) (mtp : Int32) (mbt : Int32) (x1 : Int32) (x2 : Int32) (y1 : Int32) (H : Heap) (locs : List Loc) (ls : Array Slot), fX4_take_J30   mth mtp mbt x1 x2 y1 = some (o_mth, o_mtp, o_mbt) → va_P G vwCl [(h, .inr (4, [.int mth, .int mtp, .int mbt, .int mmn, .ref a5, .int mrs, .ref a6, .long mlt, .long mlb, .long mht, .long mhb])), (a5, .inl (cI, 64, .inl mte)), (a6, .inl (cI, 64, .inl mru))] H → va_D A [(h, .inr (4, [.int mth, .int mtp, .int mbt, .int mmn, .ref a5, .int mrs, .ref a6, .long mlt, .long mlb, .long mht, .long mhb])), (a5, .inl (cI, 64, .inl mte)), (a6, .inl (cI, 64, .inl mru))] → va_S A s.heap H locs → lv_has ls 3 [(0, .ref h), (1, .int x1), (2, .int x2)] → W p l e (headSpec wsX4_take ({ frames := 2, cells := 0, slots := 0, locals := 55 })).room s m ([.ref h, .int p1, .int p2].toArray) below meth c H locs 0 0 (Qf (o_mth, o_mtp, o_mbt)) (F0 m 30 ls [.int y1, .ref h]) := by
    intro   mth mtp mbt x1 x2 y1 H locs ls hf hP hD hS hl
    unfold fX4_take_J30 at hf
    refine va_put (D := G) (ci := 4) (v := .int y1) (ty := .int) (C := RX4) (T := TX4) (N := 11) hx hb hts hinX4 tyX4 tyX4_ok nmX4 hown hK.1 hP hD hS 0 rfl rfl 0 (by decide) w1 (fun _ h9 => h9) rfl (by decide +kernel) rfl rfl (Nat.le_of_ble_eq_true rfl) dX4_take_30 (fun H locs hP hD hS => ?_)
    have hP : va_P G vwCl [(h, .inr (4, [.int y1, .int mtp, .int mbt, .int mmn, .ref a5, .int mrs, .ref a6, .long mlt, .long mlb, .long mht, .long mhb])), (a5, .inl (cI, 64, .inl mte)), (a6, .inl (cI, 64, .inl mru))] H := hP
    have hD : va_D A [(h, .inr (4, [.int y1, .int mtp, .int mbt, .int mmn, .ref a5, .int mrs, .ref a6, .long mlt, .long mlb, .long mht, .long mhb])), (a5, .inl (cI, 64, .inl mte)), (a6, .inl (cI, 64, .inl mru))] := hD
    refine lv_aload_n hx hb dX4_take_33 rfl (lv_at hl 0 rfl) ?_
    refine va_get (D := G) (ci := 4) (v := .int y1) (C := RX4) (T := TX4) (N := 11) hx hb hts hinX4 hown hK.1 hP 0 rfl rfl 0 (by decide) w1 (fun _ h9 => h9) rfl dX4_take_34 ?_
    refine lv_if_ne (tgt := 48) hx hb dX4_take_37 (by decide) (fun c37 => ?_) (fun c37 => ?_)
    · have hf := it_f c37 hf
      refine qf_s (Qf := Qf) hf ?_
      have hP9 : va_P G vwCl [(h, .inr (4, [.int y1, .int mtp, .int mbt, .int mmn, .ref a5, .int mrs, .ref a6, .long mlt, .long mlb, .long mht, .long mhb])), (a5, .inl (cI, 64, .inl mte)), (a6, .inl (cI, 64, .inl mru))] _ := hP.sub [0, 1, 2] rfl
      have hD9 : va_D A [(h, .inr (4, [.int y1, .int mtp, .int mbt, .int mmn, .ref a5, .int mrs, .ref a6, .long mlt, .long mlb, .long mht, .long mhb])), (a5, .inl (cI, 64, .inl mte)), (a6, .inl (cI, 64, .inl mru))] := hD.sub [0, 1, 2] (by decide) rfl
      rw [hQf]
      exact W.vret hx hb hr (fun t ht hW => ⟨⟨(), rfl, trivial, by rw [ht]; exact hP9, hD9⟩, hS.F ht⟩) hS.2.2 dX4_take_48
    · have hf := it_t c37 hf
      refine lv_aload_n hx hb dX4_take_40 rfl (lv_at hl 0 rfl) ?_
      refine lv_iload_n hx hb dX4_take_41 rfl (lv_at hl 1 rfl) ?_
      refine lv_i2l hx hb dX4_take_42 rfl ?_
      refine lv_iload_n hx hb dX4_take_43 rfl (lv_at hl 2 rfl) ?_
      refine lv_i2l hx hb dX4_take_44 rfl ?_
      obtain ⟨mtp_45, mbt_45, hv45, hf⟩ := bd2_s hf
      refine mcVv (As := [.long (Int32.toInt64 x1), .long (Int32.toInt64 x2)]) (rest := []) (wr := []) (wc := [(h, .inr (4, [.int y1, .int mtp, .int mbt, .int mmn, .ref a5, .int mrs, .ref a6, .long mlt, .long mlb, .long mht, .long mhb])), (a5, .inl (cI, 64, .inl mte)), (a6, .inl (cI, 64, .inl mru))]) ⟨hx, hb, hml, hown, hts⟩ (zX4_become l G cI _ h a5 a6 y1 mtp mbt mmn mte mrs mru mlt mlb mht mhb (Int32.toInt64 x1) (Int32.toInt64 x2) hv45) (cwV 2 hts gX4_take_X4_become rfl rfl rfl (by decide +kernel) ⟨Nat.le_of_ble_eq_true rfl, Nat.le_of_ble_eq_true rfl⟩) hK hP hD [0, 1, 2] [] rfl rfl rfl (by decide) (by decide) (by decide) rfl rfl rfl hl.1 rfl (Nat.le_of_ble_eq_true rfl) dX4_take_45 ⟨Nat.le_of_ble_eq_true rfl, Nat.le_of_ble_eq_true rfl⟩ hS hA (fun H locs hP hD hz45 hS => ?_)
      have hP : va_P G vwCl [(h, .inr (4, [.int y1, .int mtp_45, .int mbt_45, .int mmn, .ref a5, .int mrs, .ref a6, .long mlt, .long mlb, .long mht, .long mhb])), (a5, .inl (cI, 64, .inl mte)), (a6, .inl (cI, 64, .inl mru))] H := hP
      have hD : va_D A [(h, .inr (4, [.int y1, .int mtp_45, .int mbt_45, .int mmn, .ref a5, .int mrs, .ref a6, .long mlt, .long mlb, .long mht, .long mhb])), (a5, .inl (cI, 64, .inl mte)), (a6, .inl (cI, 64, .inl mru))] := hD
      refine qf_s (Qf := Qf) hf ?_
      have hP9 : va_P G vwCl [(h, .inr (4, [.int y1, .int mtp_45, .int mbt_45, .int mmn, .ref a5, .int mrs, .ref a6, .long mlt, .long mlb, .long mht, .long mhb])), (a5, .inl (cI, 64, .inl mte)), (a6, .inl (cI, 64, .inl mru))] _ := hP.sub [0, 1, 2] rfl
      have hD9 : va_D A [(h, .inr (4, [.int y1, .int mtp_45, .int mbt_45, .int mmn, .ref a5, .int mrs, .ref a6, .long mlt, .long mlb, .long mht, .long mhb])), (a5, .inl (cI, 64, .inl mte)), (a6, .inl (cI, 64, .inl mru))] := hD.sub [0, 1, 2] (by decide) rfl
      rw [hQf]
      exact W.vret hx hb hr (fun t ht hW => ⟨⟨(), rfl, trivial, by rw [ht]; exact hP9, hD9⟩, hS.F ht⟩) hS.2.2 dX4_take_48
  have J29 : ∀ (mth : Int32) (mtp : Int32) (mbt : Int32) (x1 : Int32) (x2 : Int32) (H : Heap) (locs : List Loc) (ls : Array Slot), fX4_take_J29   mth mtp mbt x1 x2 = some (o_mth, o_mtp, o_mbt) → va_P G vwCl [(h, .inr (4, [.int mth, .int mtp, .int mbt, .int mmn, .ref a5, .int mrs, .ref a6, .long mlt, .long mlb, .long mht, .long mhb])), (a5, .inl (cI, 64, .inl mte)), (a6, .inl (cI, 64, .inl mru))] H → va_D A [(h, .inr (4, [.int mth, .int mtp, .int mbt, .int mmn, .ref a5, .int mrs, .ref a6, .long mlt, .long mlb, .long mht, .long mhb])), (a5, .inl (cI, 64, .inl mte)), (a6, .inl (cI, 64, .inl mru))] → va_S A s.heap H locs → lv_has ls 3 [(0, .ref h), (1, .int x1), (2, .int x2)] → W p l e (headSpec wsX4_take ({ frames := 2, cells := 0, slots := 0, locals := 55 })).room s m ([.ref h, .int p1, .int p2].toArray) below meth c H locs 0 0 (Qf (o_mth, o_mtp, o_mbt)) (F0 m 29 ls [.ref h]) := by
    intro   mth mtp mbt x1 x2 H locs ls hf hP hD hS hl
    unfold fX4_take_J29 at hf
    refine lv_iconst (v := 1) hx hb dX4_take_29 (by decide) ?_
    exact J30   mth mtp mbt x1 x2 1 _ _ _ hf hP hD hS (lv_sub hl [0, 1, 2] rfl)
  have hl := lv_entry ([.ref h, .int p1, .int p2]) (n := 3) (Nat.le_of_ble_eq_true rfl)
  rw [lg_entry_eq]
  generalize (lg_sl ([.ref h, .int p1, .int p2]) ++ List.replicate (3 - (lg_sl ([.ref h, .int p1, .int p2])).length) Slot.unset).toArray = ls at hl ⊢
  have hl : lv_has ls 3 [(0, .ref h), (1, .int p1), (2, .int p2)] := hl
  unfold fX4_take at hf
  refine lv_aload_n hx hb dX4_take_0 rfl (lv_at hl 0 rfl) ?_
  refine lv_iload_n hx hb dX4_take_1 rfl (lv_at hl 1 rfl) ?_
  refine lv_i2l hx hb dX4_take_2 rfl ?_
  refine lv_lconst (v := 0) hx hb dX4_take_3 (by decide) ?_
  refine lv_ldc2 hx hb hown w0 dX4_take_4 ?_
  obtain ⟨r7, hv7, hf⟩ := bd1_s hf
  refine roSi (As := [.long (Int32.toInt64 p1), .long 0, .long 100000]) (rest := [.ref h]) ⟨hx, hb, hml, hown, hts⟩ (zX4_in l G cI _ (Int32.toInt64 p1) 0 100000 hv7) (va_cwS 3 hts gX4_take_X4_in rfl rfl rfl (by decide +kernel) ⟨Nat.le_of_ble_eq_true rfl, Nat.le_of_ble_eq_true rfl⟩) hK hP rfl hl.1 rfl (Nat.le_of_ble_eq_true rfl) dX4_take_7 ⟨Nat.le_of_ble_eq_true rfl, Nat.le_of_ble_eq_true rfl⟩ hS hA (fun H locs hP hz7 hS => ?_)
  refine lv_if_eq (tgt := 29) hx hb dX4_take_10 (by decide) (fun c10 => ?_) (fun c10 => ?_)
  · have hf := it_t c10 hf
    exact J29   mth mtp mbt p1 p2 _ _ _ hf hP hD hS (lv_sub hl [0, 1, 2] rfl)
  · have hf := it_f c10 hf
    refine lv_iload_n hx hb dX4_take_13 rfl (lv_at hl 2 rfl) ?_
    refine lv_i2l hx hb dX4_take_14 rfl ?_
    refine lv_lconst (v := 1) hx hb dX4_take_15 (by decide) ?_
    refine lv_ldc2 hx hb hown w0 dX4_take_16 ?_
    obtain ⟨r19, hv19, hf⟩ := bd1_s hf
    refine roSi (As := [.long (Int32.toInt64 p2), .long 1, .long 100000]) (rest := [.ref h]) ⟨hx, hb, hml, hown, hts⟩ (zX4_in l G cI _ (Int32.toInt64 p2) 1 100000 hv19) (va_cwS 3 hts gX4_take_X4_in rfl rfl rfl (by decide +kernel) ⟨Nat.le_of_ble_eq_true rfl, Nat.le_of_ble_eq_true rfl⟩) hK hP rfl hl.1 rfl (Nat.le_of_ble_eq_true rfl) dX4_take_19 ⟨Nat.le_of_ble_eq_true rfl, Nat.le_of_ble_eq_true rfl⟩ hS hA (fun H locs hP hz19 hS => ?_)
    refine lv_if_eq (tgt := 29) hx hb dX4_take_22 (by decide) (fun c22 => ?_) (fun c22 => ?_)
    · have hf := it_t c22 hf
      exact J29   mth mtp mbt p1 p2 _ _ _ hf hP hD hS (lv_sub hl [0, 1, 2] rfl)
    · have hf := it_f c22 hf
      refine lv_iconst (v := 0) hx hb dX4_take_25 (by decide) ?_
      refine lv_goto (tgt := 30) hx hb dX4_take_26 (by decide) ?_
      exact J30   mth mtp mbt p1 p2 0 _ _ _ hf hP hD hS (lv_sub hl [0, 1, 2] rfl)
def fX4_part (mtp : Int32) (mbt : Int32) (mth : Int32) (p1 : Int32) : Option (Int32 × Int32) :=
  if p1 = 0 then
    some (mtp, 0)
  else
    if p1 = 1 then
      some (mbt, 0)
    else
      some ((-1), 0)
set_option maxHeartbeats 4000000 in
set_option maxRecDepth 100000 in
theorem zX4_part (l : Launch) (G : va_G) (cI : ClassId) (sz : Nat) (h a5 a6 : Nat) (mth : Int32) (mtp : Int32) (mbt : Int32) (mmn : Int32) (mte : Nat → Int32) (mrs : Int32) (mru : Nat → Int32) (mlt : Int64) (mlb : Int64) (mht : Int64) (mhb : Int64) (p1 : Int32) {rv : Int32} {o_mth : Int32} (hf : fX4_part mtp mbt mth p1 = some (rv, o_mth)) : mMi l yX4_part wsX4_part ({ frames := 0, cells := 0, slots := 0, locals := 0 }) [.ref h, .int p1] G cI [(h, .inr (4, [.int mth, .int mtp, .int mbt, .int mmn, .ref a5, .int mrs, .ref a6, .long mlt, .long mlb, .long mht, .long mhb])), (a5, .inl (cI, 64, .inl mte)), (a6, .inl (cI, 64, .inl mru))] sz rv [(h, .inr (4, [.int o_mth, .int mtp, .int mbt, .int mmn, .ref a5, .int mrs, .ref a6, .long mlt, .long mlb, .long mht, .long mhb])), (a5, .inl (cI, 64, .inl mte)), (a6, .inl (cI, 64, .inl mru))] 0 0 := by
  refine Met.ofW (cc := cX4_part) (maxL := 2) (ret := (some .int)) (by decide) rfl ?_
  intro p e s m args below meth c s₁ B hml hv
  obtain ⟨rfl, hsz, hP, hK, hD0⟩ := hv
  have hx := B.exec
  have hb := B.bytes
  have hr := B.returns
  have hts := atoms_spec (ws := wsX4_part) B.pre
  have hown : s.vm.findClass RX4 = some m.cls := findClass_of_methodNamed B.named
  have hlocks := B.notSynchronized
  subst hsz
  have hD := hD0.self (sz := s.heap.size)
  generalize hAe : va_A [(h, .inr (4, [.int mth, .int mtp, .int mbt, .int mmn, .ref a5, .int mrs, .ref a6, .long mlt, .long mlb, .long mht, .long mhb])), (a5, .inl (cI, 64, .inl mte)), (a6, .inl (cI, 64, .inl mru))] s.heap.size = A at hD ⊢
  have hA : ∀ q : Nat, s.heap.size ≤ q → A q := fun q h => by rw [← hAe]; exact Or.inr h
  have hS : va_S A s.heap s.heap [] := va_S.rf
  have w0 := hts (.fieldLink RX4 23 "SternDeskModel" "thrown" "I") (by decide +kernel)
  have hinX4 : ∀ w ∈ u_ws RX4 TX4 11, w ∈ wsX4_part := by decide +kernel
  have w2 := hts (.fieldLink RX4 13 "SternDeskModel" "bottom" "I") (by decide +kernel)
  have w3 := hts (.fieldLink RX4 7 "SternDeskModel" "top" "I") (by decide +kernel)
  obtain ⟨Qf, hQf⟩ : ∃ f : (Int32 × Int32) → State → Prop, f = fun z => MQ below (va_Qi (fun (r : Int32) (_ : Unit) => r = z.1) (fun _ t => va_P G vwCl [(h, .inr (4, [.int z.2, .int mtp, .int mbt, .int mmn, .ref a5, .int mrs, .ref a6, .long mlt, .long mlb, .long mht, .long mhb])), (a5, .inl (cI, 64, .inl mte)), (a6, .inl (cI, 64, .inl mru))] t.heap ∧ va_D A [(h, .inr (4, [.int z.2, .int mtp, .int mbt, .int mmn, .ref a5, .int mrs, .ref a6, .long mlt, .long mlb, .long mht, .long mhb])), (a5, .inl (cI, 64, .inl mte)), (a6, .inl (cI, 64, .inl mru))]) A) ([.ref h, .int p1].toArray) s 0 0 A := ⟨_, rfl⟩
  suffices hgo : W p l e (headSpec wsX4_part ({ frames := 0, cells := 0, slots := 0, locals := 0 })).room s m ([.ref h, .int p1].toArray) below meth c s.heap [] 0 0 (Qf (rv, o_mth)) (entryFrame m ([.ref h, .int p1].toArray) 2) by rw [hQf] at hgo; exact hgo
  have hl := lv_entry ([.ref h, .int p1]) (n := 2) (Nat.le_of_ble_eq_true rfl)
  rw [lg_entry_eq]
  generalize (lg_sl ([.ref h, .int p1]) ++ List.replicate (2 - (lg_sl ([.ref h, .int p1])).length) Slot.unset).toArray = ls at hl ⊢
  have hl : lv_has ls 2 [(0, .ref h), (1, .int p1)] := hl
  unfold fX4_part at hf
  refine lv_aload_n hx hb dX4_part_0 rfl (lv_at hl 0 rfl) ?_
  refine lv_iconst (v := 0) hx hb dX4_part_1 (by decide) ?_
  refine va_put (D := G) (ci := 4) (v := .int 0) (ty := .int) (C := RX4) (T := TX4) (N := 11) hx hb hts hinX4 tyX4 tyX4_ok nmX4 hown hK.1 hP hD hS 0 rfl rfl 0 (by decide) w0 (fun _ h9 => h9) rfl (by decide +kernel) rfl rfl (Nat.le_of_ble_eq_true rfl) dX4_part_2 (fun H locs hP hD hS => ?_)
  have hP : va_P G vwCl [(h, .inr (4, [.int 0, .int mtp, .int mbt, .int mmn, .ref a5, .int mrs, .ref a6, .long mlt, .long mlb, .long mht, .long mhb])), (a5, .inl (cI, 64, .inl mte)), (a6, .inl (cI, 64, .inl mru))] H := hP
  have hD : va_D A [(h, .inr (4, [.int 0, .int mtp, .int mbt, .int mmn, .ref a5, .int mrs, .ref a6, .long mlt, .long mlb, .long mht, .long mhb])), (a5, .inl (cI, 64, .inl mte)), (a6, .inl (cI, 64, .inl mru))] := hD
  refine lv_iload_n hx hb dX4_part_5 rfl (lv_at hl 1 rfl) ?_
  refine lv_if_ne (tgt := 16) hx hb dX4_part_6 (by decide) (fun c6 => ?_) (fun c6 => ?_)
  · have hf := it_f c6 hf
    refine lv_iload_n hx hb dX4_part_16 rfl (lv_at hl 1 rfl) ?_
    refine lv_iconst (v := 1) hx hb dX4_part_17 (by decide) ?_
    refine lv_icmp_ne (tgt := 28) hx hb dX4_part_18 (by decide) (fun c18 => ?_) (fun c18 => ?_)
    · have hf := it_f c18 hf
      refine lv_iconst (v := (-1)) hx hb dX4_part_28 (by decide) ?_
      refine qf_s (Qf := Qf) hf ?_
      have hP9 : va_P G vwCl [(h, .inr (4, [.int 0, .int mtp, .int mbt, .int mmn, .ref a5, .int mrs, .ref a6, .long mlt, .long mlb, .long mht, .long mhb])), (a5, .inl (cI, 64, .inl mte)), (a6, .inl (cI, 64, .inl mru))] _ := hP.sub [0, 1, 2] rfl
      have hD9 : va_D A [(h, .inr (4, [.int 0, .int mtp, .int mbt, .int mmn, .ref a5, .int mrs, .ref a6, .long mlt, .long mlb, .long mht, .long mhb])), (a5, .inl (cI, 64, .inl mte)), (a6, .inl (cI, 64, .inl mru))] := hD.sub [0, 1, 2] (by decide) rfl
      rw [hQf]
      exact W.iret hx hb hr (fun t ht hW => ⟨⟨_, (), rfl, rfl, by rw [ht]; exact hP9, hD9⟩, hS.F ht⟩) hS.2.2 dX4_part_29
    · have hf := it_t c18 hf
      refine lv_aload_n hx hb dX4_part_21 rfl (lv_at hl 0 rfl) ?_
      refine va_get (D := G) (ci := 4) (v := .int mbt) (C := RX4) (T := TX4) (N := 11) hx hb hts hinX4 hown hK.1 hP 0 rfl rfl 2 (by decide) w2 (fun _ h9 => h9) rfl dX4_part_22 ?_
      refine lv_goto (tgt := 29) hx hb dX4_part_25 (by decide) ?_
      refine qf_s (Qf := Qf) hf ?_
      have hP9 : va_P G vwCl [(h, .inr (4, [.int 0, .int mtp, .int mbt, .int mmn, .ref a5, .int mrs, .ref a6, .long mlt, .long mlb, .long mht, .long mhb])), (a5, .inl (cI, 64, .inl mte)), (a6, .inl (cI, 64, .inl mru))] _ := hP.sub [0, 1, 2] rfl
      have hD9 : va_D A [(h, .inr (4, [.int 0, .int mtp, .int mbt, .int mmn, .ref a5, .int mrs, .ref a6, .long mlt, .long mlb, .long mht, .long mhb])), (a5, .inl (cI, 64, .inl mte)), (a6, .inl (cI, 64, .inl mru))] := hD.sub [0, 1, 2] (by decide) rfl
      rw [hQf]
      exact W.iret hx hb hr (fun t ht hW => ⟨⟨_, (), rfl, rfl, by rw [ht]; exact hP9, hD9⟩, hS.F ht⟩) hS.2.2 dX4_part_29
  · have hf := it_t c6 hf
    refine lv_aload_n hx hb dX4_part_9 rfl (lv_at hl 0 rfl) ?_
    refine va_get (D := G) (ci := 4) (v := .int mtp) (C := RX4) (T := TX4) (N := 11) hx hb hts hinX4 hown hK.1 hP 0 rfl rfl 1 (by decide) w3 (fun _ h9 => h9) rfl dX4_part_10 ?_
    refine lv_goto (tgt := 29) hx hb dX4_part_13 (by decide) ?_
    refine qf_s (Qf := Qf) hf ?_
    have hP9 : va_P G vwCl [(h, .inr (4, [.int 0, .int mtp, .int mbt, .int mmn, .ref a5, .int mrs, .ref a6, .long mlt, .long mlb, .long mht, .long mhb])), (a5, .inl (cI, 64, .inl mte)), (a6, .inl (cI, 64, .inl mru))] _ := hP.sub [0, 1, 2] rfl
    have hD9 : va_D A [(h, .inr (4, [.int 0, .int mtp, .int mbt, .int mmn, .ref a5, .int mrs, .ref a6, .long mlt, .long mlb, .long mht, .long mhb])), (a5, .inl (cI, 64, .inl mte)), (a6, .inl (cI, 64, .inl mru))] := hD.sub [0, 1, 2] (by decide) rfl
    rw [hQf]
    exact W.iret hx hb hr (fun t ht hW => ⟨⟨_, (), rfl, rfl, by rw [ht]; exact hP9, hD9⟩, hS.F ht⟩) hS.2.2 dX4_part_29
def fX4_findTerms_B15 (k15 : Int32 → (Nat → Int32) → Int32 → Int32 → Option (Int32 × (Nat → Int32))) (mtp : Int32) (mbt : Int32) (mmn : Int32) (mte : Nat → Int32) (x1 : Int32) (x2 : Int32) : Option (Int32 × (Nat → Int32)) :=
  if x2 = 0 then
    some (mmn, mte)
  else
    ckZ x2 <|
    nm (x1 / x2) fun v30 =>
    ckI mmn 64 <|
    nm (upd mte (Int32.toNatClampNeg mmn) v30) fun mte30 =>
    nm (mmn + 1) fun v38 =>
    ckZ x2 <|
    nm (x1 - x1 / x2 * x2) fun v44 =>
    k15 v38 mte30 x2 v44
def fX4_findTerms_L15 (mtp : Int32) (mbt : Int32) : Nat → Int32 → (Nat → Int32) → Int32 → Int32 → Option (Int32 × (Nat → Int32))
  | 0, _, _, _, _ => none
  | n + 1, mmn, mte, x1, x2 => fX4_findTerms_B15 (fX4_findTerms_L15  mtp mbt n) mtp mbt mmn mte x1 x2
def fX4_findTerms (mtp : Int32) (mbt : Int32) (mmn : Int32) (mte : Nat → Int32) : Option (Int32 × (Nat → Int32)) :=
  fX4_findTerms_L15  mtp mbt FU 0 mte mtp mbt
set_option maxHeartbeats 4000000 in
set_option maxRecDepth 100000 in
theorem zX4_findTerms (l : Launch) (G : va_G) (cI : ClassId) (sz : Nat) (h a5 a6 : Nat) (mth : Int32) (mtp : Int32) (mbt : Int32) (mmn : Int32) (mte : Nat → Int32) (mrs : Int32) (mru : Nat → Int32) (mlt : Int64) (mlb : Int64) (mht : Int64) (mhb : Int64) {o_mmn : Int32} {o_mte : Nat → Int32} (hf : fX4_findTerms mtp mbt mmn mte = some (o_mmn, o_mte)) : mMv l yX4_findTerms wsX4_findTerms ({ frames := 0, cells := 0, slots := 0, locals := 0 }) [.ref h] G cI [(h, .inr (4, [.int mth, .int mtp, .int mbt, .int mmn, .ref a5, .int mrs, .ref a6, .long mlt, .long mlb, .long mht, .long mhb])), (a5, .inl (cI, 64, .inl mte)), (a6, .inl (cI, 64, .inl mru))] sz [(h, .inr (4, [.int mth, .int mtp, .int mbt, .int o_mmn, .ref a5, .int mrs, .ref a6, .long mlt, .long mlb, .long mht, .long mhb])), (a5, .inl (cI, 64, .inl o_mte)), (a6, .inl (cI, 64, .inl mru))] 0 0 := by
  refine Met.ofW (cc := cX4_findTerms) (maxL := 4) (ret := none) (by decide) rfl ?_
  intro p e s m args below meth c s₁ B hml hv
  obtain ⟨rfl, hsz, hP, hK, hD0⟩ := hv
  have hx := B.exec
  have hb := B.bytes
  have hr := B.returns
  have hts := atoms_spec (ws := wsX4_findTerms) B.pre
  have hown : s.vm.findClass RX4 = some m.cls := findClass_of_methodNamed B.named
  have hlocks := B.notSynchronized
  subst hsz
  have hD := hD0.self (sz := s.heap.size)
  generalize hAe : va_A [(h, .inr (4, [.int mth, .int mtp, .int mbt, .int mmn, .ref a5, .int mrs, .ref a6, .long mlt, .long mlb, .long mht, .long mhb])), (a5, .inl (cI, 64, .inl mte)), (a6, .inl (cI, 64, .inl mru))] s.heap.size = A at hD ⊢
  have hA : ∀ q : Nat, s.heap.size ≤ q → A q := fun q h => by rw [← hAe]; exact Or.inr h
  have hS : va_S A s.heap s.heap [] := va_S.rf
  have w0 := hts (.fieldLink RX4 40 "SternDeskModel" "many" "I") (by decide +kernel)
  have hinX4 : ∀ w ∈ u_ws RX4 TX4 11, w ∈ wsX4_findTerms := by decide +kernel
  have w2 := hts (.fieldLink RX4 7 "SternDeskModel" "top" "I") (by decide +kernel)
  have w3 := hts (.fieldLink RX4 13 "SternDeskModel" "bottom" "I") (by decide +kernel)
  have w4 := hts (.fieldLink RX4 16 "SternDeskModel" "terms" "[I") (by decide +kernel)
  obtain ⟨Qf, hQf⟩ : ∃ f : (Int32 × (Nat → Int32)) → State → Prop, f = fun z => MQ below (va_Qv (fun (_ : Unit) => True) (fun _ t => va_P G vwCl [(h, .inr (4, [.int mth, .int mtp, .int mbt, .int z.1, .ref a5, .int mrs, .ref a6, .long mlt, .long mlb, .long mht, .long mhb])), (a5, .inl (cI, 64, .inl z.2)), (a6, .inl (cI, 64, .inl mru))] t.heap ∧ va_D A [(h, .inr (4, [.int mth, .int mtp, .int mbt, .int z.1, .ref a5, .int mrs, .ref a6, .long mlt, .long mlb, .long mht, .long mhb])), (a5, .inl (cI, 64, .inl z.2)), (a6, .inl (cI, 64, .inl mru))]) A) ([.ref h].toArray) s 0 0 A := ⟨_, rfl⟩
  suffices hgo : W p l e (headSpec wsX4_findTerms ({ frames := 0, cells := 0, slots := 0, locals := 0 })).room s m ([.ref h].toArray) below meth c s.heap [] 0 0 (Qf (o_mmn, o_mte)) (entryFrame m ([.ref h].toArray) 4) by rw [hQf] at hgo; exact hgo
  have B15 : ∀ (k15 : Int32 → (Nat → Int32) → Int32 → Int32 → Option (Int32 × (Nat → Int32))) (hk15 : ∀ (mmn : Int32) (mte : Nat → Int32) (x1 : Int32) (x2 : Int32) (H : Heap) (locs : List Loc) (ls : Array Slot), k15 mmn mte x1 x2 = some (o_mmn, o_mte) → va_P G vwCl [(h, .inr (4, [.int mth, .int mtp, .int mbt, .int mmn, .ref a5, .int mrs, .ref a6, .long mlt, .long mlb, .long mht, .long mhb])), (a5, .inl (cI, 64, .inl mte)), (a6, .inl (cI, 64, .inl mru))] H → va_D A [(h, .inr (4, [.int mth, .int mtp, .int mbt, .int mmn, .ref a5, .int mrs, .ref a6, .long mlt, .long mlb, .long mht, .long mhb])), (a5, .inl (cI, 64, .inl mte)), (a6, .inl (cI, 64, .inl mru))] → va_S A s.heap H locs → lv_has ls 4 [(0, .ref h), (1, .int x1), (2, .int x2)] → W p l e (headSpec wsX4_findTerms ({ frames := 0, cells := 0, slots := 0, locals := 0 })).room s m ([.ref h].toArray) below meth c H locs 0 0 (Qf (o_mmn, o_mte)) (F0 m 15 ls [])) (mmn : Int32) (mte : Nat → Int32) (x1 : Int32) (x2 : Int32) (H : Heap) (locs : List Loc) (ls : Array Slot), fX4_findTerms_B15 k15 mtp mbt mmn mte x1 x2 = some (o_mmn, o_mte) → va_P G vwCl [(h, .inr (4, [.int mth, .int mtp, .int mbt, .int mmn, .ref a5, .int mrs, .ref a6, .long mlt, .long mlb, .long mht, .long mhb])), (a5, .inl (cI, 64, .inl mte)), (a6, .inl (cI, 64, .inl mru))] H → va_D A [(h, .inr (4, [.int mth, .int mtp, .int mbt, .int mmn, .ref a5, .int mrs, .ref a6, .long mlt, .long mlb, .long mht, .long mhb])), (a5, .inl (cI, 64, .inl mte)), (a6, .inl (cI, 64, .inl mru))] → va_S A s.heap H locs → lv_has ls 4 [(0, .ref h), (1, .int x1), (2, .int x2)] → W p l e (headSpec wsX4_findTerms ({ frames := 0, cells := 0, slots := 0, locals := 0 })).room s m ([.ref h].toArray) below meth c H locs 0 0 (Qf (o_mmn, o_mte)) (F0 m 15 ls []) := by
    intro k15 hk15  mmn mte x1 x2 H locs ls hf hP hD hS hl
    unfold fX4_findTerms_B15 at hf
    refine lv_iload_n hx hb dX4_findTerms_15 rfl (lv_at hl 2 rfl) ?_
    refine lv_if_eq (tgt := 52) hx hb dX4_findTerms_16 (by decide) (fun c16 => ?_) (fun c16 => ?_)
    · have hf := it_t c16 hf
      refine qf_s (Qf := Qf) hf ?_
      have hP9 : va_P G vwCl [(h, .inr (4, [.int mth, .int mtp, .int mbt, .int mmn, .ref a5, .int mrs, .ref a6, .long mlt, .long mlb, .long mht, .long mhb])), (a5, .inl (cI, 64, .inl mte)), (a6, .inl (cI, 64, .inl mru))] _ := hP.sub [0, 1, 2] rfl
      have hD9 : va_D A [(h, .inr (4, [.int mth, .int mtp, .int mbt, .int mmn, .ref a5, .int mrs, .ref a6, .long mlt, .long mlb, .long mht, .long mhb])), (a5, .inl (cI, 64, .inl mte)), (a6, .inl (cI, 64, .inl mru))] := hD.sub [0, 1, 2] (by decide) rfl
      rw [hQf]
      exact W.vret hx hb hr (fun t ht hW => ⟨⟨(), rfl, trivial, by rw [ht]; exact hP9, hD9⟩, hS.F ht⟩) hS.2.2 dX4_findTerms_52
    · have hf := it_f c16 hf
      refine lv_aload_n hx hb dX4_findTerms_19 rfl (lv_at hl 0 rfl) ?_
      refine va_get (D := G) (ci := 4) (v := .ref a5) (C := RX4) (T := TX4) (N := 11) hx hb hts hinX4 hown hK.1 hP 0 rfl rfl 4 (by decide) w4 (fun _ h9 => h9) rfl dX4_findTerms_20 ?_
      refine lv_aload_n hx hb dX4_findTerms_23 rfl (lv_at hl 0 rfl) ?_
      refine va_get (D := G) (ci := 4) (v := .int mmn) (C := RX4) (T := TX4) (N := 11) hx hb hts hinX4 hown hK.1 hP 0 rfl rfl 3 (by decide) w0 (fun _ h9 => h9) rfl dX4_findTerms_24 ?_
      refine lv_iload_n hx hb dX4_findTerms_27 rfl (lv_at hl 1 rfl) ?_
      refine lv_iload_n hx hb dX4_findTerms_28 rfl (lv_at hl 2 rfl) ?_
      obtain ⟨hz29, hf⟩ := ckZ_s hf
      refine lv_idiv hx hb dX4_findTerms_29 hz29 ?_
      refine lv_topi (fun v30 ev30 => ?_)
      have hf := nm_s ev30 hf
      obtain ⟨hi30, hf⟩ := ckI_s hf
      refine va_iast hx hb hK.1 hP hD hS 1 0 rfl rfl hi30 dX4_findTerms_30 (fun H locs hP hD hS => ?_)
      obtain ⟨mte30, emte30⟩ : ∃ z : Nat → Int32, z = upd mte (Int32.toNatClampNeg mmn) v30 := ⟨_, rfl⟩
      have hf := nm_s emte30 hf
      rw [← emte30] at hP hD
      have hP : va_P G vwCl [(h, .inr (4, [.int mth, .int mtp, .int mbt, .int mmn, .ref a5, .int mrs, .ref a6, .long mlt, .long mlb, .long mht, .long mhb])), (a5, .inl (cI, 64, .inl mte30)), (a6, .inl (cI, 64, .inl mru))] H := hP
      have hD : va_D A [(h, .inr (4, [.int mth, .int mtp, .int mbt, .int mmn, .ref a5, .int mrs, .ref a6, .long mlt, .long mlb, .long mht, .long mhb])), (a5, .inl (cI, 64, .inl mte30)), (a6, .inl (cI, 64, .inl mru))] := hD
      refine lv_aload_n hx hb dX4_findTerms_31 rfl (lv_at hl 0 rfl) ?_
      refine lv_dup hx hb dX4_findTerms_32 rfl ?_
      refine va_get (D := G) (ci := 4) (v := .int mmn) (C := RX4) (T := TX4) (N := 11) hx hb hts hinX4 hown hK.1 hP 0 rfl rfl 3 (by decide) w0 (fun _ h9 => h9) rfl dX4_findTerms_33 ?_
      refine lv_iconst (v := 1) hx hb dX4_findTerms_36 (by decide) ?_
      refine lv_iadd hx hb dX4_findTerms_37 ?_
      refine lv_topi (fun v38 ev38 => ?_)
      have hf := nm_s ev38 hf
      refine va_put (D := G) (ci := 4) (v := .int v38) (ty := .int) (C := RX4) (T := TX4) (N := 11) hx hb hts hinX4 tyX4 tyX4_ok nmX4 hown hK.1 hP hD hS 0 rfl rfl 3 (by decide) w0 (fun _ h9 => h9) rfl (by decide +kernel) rfl rfl (Nat.le_of_ble_eq_true rfl) dX4_findTerms_38 (fun H locs hP hD hS => ?_)
      have hP : va_P G vwCl [(h, .inr (4, [.int mth, .int mtp, .int mbt, .int v38, .ref a5, .int mrs, .ref a6, .long mlt, .long mlb, .long mht, .long mhb])), (a5, .inl (cI, 64, .inl mte30)), (a6, .inl (cI, 64, .inl mru))] H := hP
      have hD : va_D A [(h, .inr (4, [.int mth, .int mtp, .int mbt, .int v38, .ref a5, .int mrs, .ref a6, .long mlt, .long mlb, .long mht, .long mhb])), (a5, .inl (cI, 64, .inl mte30)), (a6, .inl (cI, 64, .inl mru))] := hD
      refine lv_iload_n hx hb dX4_findTerms_41 rfl (lv_at hl 1 rfl) ?_
      refine lv_iload_n hx hb dX4_findTerms_42 rfl (lv_at hl 2 rfl) ?_
      obtain ⟨hz43, hf⟩ := ckZ_s hf
      refine lv_irem hx hb dX4_findTerms_43 hz43 ?_
      refine lv_topi (fun v44 ev44 => ?_)
      have hf := nm_s ev44 hf
      refine lv_istore_n (lv' := [(3, .int v44), (0, .ref h), (1, .int x1), (2, .int x2)]) hx hb dX4_findTerms_44 rfl hl (by decide) rfl (fun ls hl => ?_)
      refine lv_iload_n hx hb dX4_findTerms_45 rfl (lv_at hl 3 rfl) ?_
      refine lv_istore_n (lv' := [(1, .int x2), (3, .int v44), (0, .ref h), (2, .int x2)]) hx hb dX4_findTerms_46 rfl hl (by decide) rfl (fun ls hl => ?_)
      refine lv_iload_n hx hb dX4_findTerms_47 rfl (lv_at hl 1 rfl) ?_
      refine lv_istore_n (lv' := [(2, .int v44), (1, .int x2), (3, .int v44), (0, .ref h)]) hx hb dX4_findTerms_48 rfl hl (by decide) rfl (fun ls hl => ?_)
      refine lv_goto (tgt := 15) hx hb dX4_findTerms_49 (by decide) ?_
      exact hk15  v38 mte30 x2 v44 _ _ _ hf hP hD hS (lv_sub hl [3, 1, 0] rfl)
  have L15 : ∀ (fu : Nat) (mmn : Int32) (mte : Nat → Int32) (x1 : Int32) (x2 : Int32) (H : Heap) (locs : List Loc) (ls : Array Slot), fX4_findTerms_L15  mtp mbt fu mmn mte x1 x2 = some (o_mmn, o_mte) → va_P G vwCl [(h, .inr (4, [.int mth, .int mtp, .int mbt, .int mmn, .ref a5, .int mrs, .ref a6, .long mlt, .long mlb, .long mht, .long mhb])), (a5, .inl (cI, 64, .inl mte)), (a6, .inl (cI, 64, .inl mru))] H → va_D A [(h, .inr (4, [.int mth, .int mtp, .int mbt, .int mmn, .ref a5, .int mrs, .ref a6, .long mlt, .long mlb, .long mht, .long mhb])), (a5, .inl (cI, 64, .inl mte)), (a6, .inl (cI, 64, .inl mru))] → va_S A s.heap H locs → lv_has ls 4 [(0, .ref h), (1, .int x1), (2, .int x2)] → W p l e (headSpec wsX4_findTerms ({ frames := 0, cells := 0, slots := 0, locals := 0 })).room s m ([.ref h].toArray) below meth c H locs 0 0 (Qf (o_mmn, o_mte)) (F0 m 15 ls []) := by
    intro  fu
    induction fu with
    | zero => intro  mmn mte x1 x2 H locs ls hf; cases hf
    | succ fu ih => intro  mmn mte x1 x2 H locs ls hf hP hD hS hl; exact B15 (fX4_findTerms_L15  mtp mbt fu) ih  mmn mte x1 x2 _ _ _ hf hP hD hS hl
  have hl := lv_entry ([.ref h]) (n := 4) (Nat.le_of_ble_eq_true rfl)
  rw [lg_entry_eq]
  generalize (lg_sl ([.ref h]) ++ List.replicate (4 - (lg_sl ([.ref h])).length) Slot.unset).toArray = ls at hl ⊢
  have hl : lv_has ls 4 [(0, .ref h)] := hl
  unfold fX4_findTerms at hf
  refine lv_aload_n hx hb dX4_findTerms_0 rfl (lv_at hl 0 rfl) ?_
  refine lv_iconst (v := 0) hx hb dX4_findTerms_1 (by decide) ?_
  refine va_put (D := G) (ci := 4) (v := .int 0) (ty := .int) (C := RX4) (T := TX4) (N := 11) hx hb hts hinX4 tyX4 tyX4_ok nmX4 hown hK.1 hP hD hS 0 rfl rfl 3 (by decide) w0 (fun _ h9 => h9) rfl (by decide +kernel) rfl rfl (Nat.le_of_ble_eq_true rfl) dX4_findTerms_2 (fun H locs hP hD hS => ?_)
  have hP : va_P G vwCl [(h, .inr (4, [.int mth, .int mtp, .int mbt, .int 0, .ref a5, .int mrs, .ref a6, .long mlt, .long mlb, .long mht, .long mhb])), (a5, .inl (cI, 64, .inl mte)), (a6, .inl (cI, 64, .inl mru))] H := hP
  have hD : va_D A [(h, .inr (4, [.int mth, .int mtp, .int mbt, .int 0, .ref a5, .int mrs, .ref a6, .long mlt, .long mlb, .long mht, .long mhb])), (a5, .inl (cI, 64, .inl mte)), (a6, .inl (cI, 64, .inl mru))] := hD
  refine lv_aload_n hx hb dX4_findTerms_5 rfl (lv_at hl 0 rfl) ?_
  refine va_get (D := G) (ci := 4) (v := .int mtp) (C := RX4) (T := TX4) (N := 11) hx hb hts hinX4 hown hK.1 hP 0 rfl rfl 1 (by decide) w2 (fun _ h9 => h9) rfl dX4_findTerms_6 ?_
  refine lv_istore_n (lv' := [(1, .int mtp), (0, .ref h)]) hx hb dX4_findTerms_9 rfl hl (by decide) rfl (fun ls hl => ?_)
  refine lv_aload_n hx hb dX4_findTerms_10 rfl (lv_at hl 1 rfl) ?_
  refine va_get (D := G) (ci := 4) (v := .int mbt) (C := RX4) (T := TX4) (N := 11) hx hb hts hinX4 hown hK.1 hP 0 rfl rfl 2 (by decide) w3 (fun _ h9 => h9) rfl dX4_findTerms_11 ?_
  refine lv_istore_n (lv' := [(2, .int mbt), (1, .int mtp), (0, .ref h)]) hx hb dX4_findTerms_14 rfl hl (by decide) rfl (fun ls hl => ?_)
  exact L15  FU  0 mte mtp mbt _ _ _ hf hP hD hS (lv_sub hl [2, 1, 0] rfl)
def fX4_terms (mtp : Int32) (mbt : Int32) (mth : Int32) (mmn : Int32) (mte : Nat → Int32) : Option (Int32 × Int32 × Int32 × (Nat → Int32)) :=
  bd2 (fX4_findTerms mtp mbt mmn mte) fun mmn_6 mte_6 =>
  some (mmn_6, 0, mmn_6, mte_6)
set_option maxHeartbeats 4000000 in
set_option maxRecDepth 100000 in
theorem zX4_terms (l : Launch) (G : va_G) (cI : ClassId) (sz : Nat) (h a5 a6 : Nat) (mth : Int32) (mtp : Int32) (mbt : Int32) (mmn : Int32) (mte : Nat → Int32) (mrs : Int32) (mru : Nat → Int32) (mlt : Int64) (mlb : Int64) (mht : Int64) (mhb : Int64) {rv : Int32} {o_mth : Int32} {o_mmn : Int32} {o_mte : Nat → Int32} (hf : fX4_terms mtp mbt mth mmn mte = some (rv, o_mth, o_mmn, o_mte)) : mMi l yX4_terms wsX4_terms ({ frames := 1, cells := 0, slots := 0, locals := 23 }) [.ref h] G cI [(h, .inr (4, [.int mth, .int mtp, .int mbt, .int mmn, .ref a5, .int mrs, .ref a6, .long mlt, .long mlb, .long mht, .long mhb])), (a5, .inl (cI, 64, .inl mte)), (a6, .inl (cI, 64, .inl mru))] sz rv [(h, .inr (4, [.int o_mth, .int mtp, .int mbt, .int o_mmn, .ref a5, .int mrs, .ref a6, .long mlt, .long mlb, .long mht, .long mhb])), (a5, .inl (cI, 64, .inl o_mte)), (a6, .inl (cI, 64, .inl mru))] 0 0 := by
  refine Met.ofW (cc := cX4_terms) (maxL := 1) (ret := (some .int)) (by decide) rfl ?_
  intro p e s m args below meth c s₁ B hml hv
  obtain ⟨rfl, hsz, hP, hK, hD0⟩ := hv
  have hx := B.exec
  have hb := B.bytes
  have hr := B.returns
  have hts := atoms_spec (ws := wsX4_terms) B.pre
  have hown : s.vm.findClass RX4 = some m.cls := findClass_of_methodNamed B.named
  have hlocks := B.notSynchronized
  subst hsz
  have hD := hD0.self (sz := s.heap.size)
  generalize hAe : va_A [(h, .inr (4, [.int mth, .int mtp, .int mbt, .int mmn, .ref a5, .int mrs, .ref a6, .long mlt, .long mlb, .long mht, .long mhb])), (a5, .inl (cI, 64, .inl mte)), (a6, .inl (cI, 64, .inl mru))] s.heap.size = A at hD ⊢
  have hA : ∀ q : Nat, s.heap.size ≤ q → A q := fun q h => by rw [← hAe]; exact Or.inr h
  have hS : va_S A s.heap s.heap [] := va_S.rf
  have w0 := hts (.fieldLink RX4 23 "SternDeskModel" "thrown" "I") (by decide +kernel)
  have hinX4 : ∀ w ∈ u_ws RX4 TX4 11, w ∈ wsX4_terms := by decide +kernel
  have w2 := hts (.fieldLink RX4 40 "SternDeskModel" "many" "I") (by decide +kernel)
  obtain ⟨Qf, hQf⟩ : ∃ f : (Int32 × Int32 × Int32 × (Nat → Int32)) → State → Prop, f = fun z => MQ below (va_Qi (fun (r : Int32) (_ : Unit) => r = z.1) (fun _ t => va_P G vwCl [(h, .inr (4, [.int z.2.1, .int mtp, .int mbt, .int z.2.2.1, .ref a5, .int mrs, .ref a6, .long mlt, .long mlb, .long mht, .long mhb])), (a5, .inl (cI, 64, .inl z.2.2.2)), (a6, .inl (cI, 64, .inl mru))] t.heap ∧ va_D A [(h, .inr (4, [.int z.2.1, .int mtp, .int mbt, .int z.2.2.1, .ref a5, .int mrs, .ref a6, .long mlt, .long mlb, .long mht, .long mhb])), (a5, .inl (cI, 64, .inl z.2.2.2)), (a6, .inl (cI, 64, .inl mru))]) A) ([.ref h].toArray) s 0 0 A := ⟨_, rfl⟩
  suffices hgo : W p l e (headSpec wsX4_terms ({ frames := 1, cells := 0, slots := 0, locals := 23 })).room s m ([.ref h].toArray) below meth c s.heap [] 0 0 (Qf (rv, o_mth, o_mmn, o_mte)) (entryFrame m ([.ref h].toArray) 1) by rw [hQf] at hgo; exact hgo
  have hl := lv_entry ([.ref h]) (n := 1) (Nat.le_of_ble_eq_true rfl)
  rw [lg_entry_eq]
  generalize (lg_sl ([.ref h]) ++ List.replicate (1 - (lg_sl ([.ref h])).length) Slot.unset).toArray = ls at hl ⊢
  have hl : lv_has ls 1 [(0, .ref h)] := hl
  unfold fX4_terms at hf
  refine lv_aload_n hx hb dX4_terms_0 rfl (lv_at hl 0 rfl) ?_
  refine lv_iconst (v := 0) hx hb dX4_terms_1 (by decide) ?_
  refine va_put (D := G) (ci := 4) (v := .int 0) (ty := .int) (C := RX4) (T := TX4) (N := 11) hx hb hts hinX4 tyX4 tyX4_ok nmX4 hown hK.1 hP hD hS 0 rfl rfl 0 (by decide) w0 (fun _ h9 => h9) rfl (by decide +kernel) rfl rfl (Nat.le_of_ble_eq_true rfl) dX4_terms_2 (fun H locs hP hD hS => ?_)
  have hP : va_P G vwCl [(h, .inr (4, [.int 0, .int mtp, .int mbt, .int mmn, .ref a5, .int mrs, .ref a6, .long mlt, .long mlb, .long mht, .long mhb])), (a5, .inl (cI, 64, .inl mte)), (a6, .inl (cI, 64, .inl mru))] H := hP
  have hD : va_D A [(h, .inr (4, [.int 0, .int mtp, .int mbt, .int mmn, .ref a5, .int mrs, .ref a6, .long mlt, .long mlb, .long mht, .long mhb])), (a5, .inl (cI, 64, .inl mte)), (a6, .inl (cI, 64, .inl mru))] := hD
  refine lv_aload_n hx hb dX4_terms_5 rfl (lv_at hl 0 rfl) ?_
  obtain ⟨mmn_6, mte_6, hv6, hf⟩ := bd2_s hf
  refine mcVv (As := []) (rest := []) (wr := []) (wc := [(h, .inr (4, [.int 0, .int mtp, .int mbt, .int mmn, .ref a5, .int mrs, .ref a6, .long mlt, .long mlb, .long mht, .long mhb])), (a5, .inl (cI, 64, .inl mte)), (a6, .inl (cI, 64, .inl mru))]) ⟨hx, hb, hml, hown, hts⟩ (zX4_findTerms l G cI _ h a5 a6 0 mtp mbt mmn mte mrs mru mlt mlb mht mhb  hv6) (cwV 0 hts gX4_terms_X4_findTerms rfl rfl rfl (by decide +kernel) ⟨Nat.le_of_ble_eq_true rfl, Nat.le_of_ble_eq_true rfl⟩) hK hP hD [0, 1, 2] [] rfl rfl rfl (by decide) (by decide) (by decide) rfl rfl rfl hl.1 rfl (Nat.le_of_ble_eq_true rfl) dX4_terms_6 ⟨Nat.le_of_ble_eq_true rfl, Nat.le_of_ble_eq_true rfl⟩ hS hA (fun H locs hP hD hz6 hS => ?_)
  have hP : va_P G vwCl [(h, .inr (4, [.int 0, .int mtp, .int mbt, .int mmn_6, .ref a5, .int mrs, .ref a6, .long mlt, .long mlb, .long mht, .long mhb])), (a5, .inl (cI, 64, .inl mte_6)), (a6, .inl (cI, 64, .inl mru))] H := hP
  have hD : va_D A [(h, .inr (4, [.int 0, .int mtp, .int mbt, .int mmn_6, .ref a5, .int mrs, .ref a6, .long mlt, .long mlb, .long mht, .long mhb])), (a5, .inl (cI, 64, .inl mte_6)), (a6, .inl (cI, 64, .inl mru))] := hD
  refine lv_aload_n hx hb dX4_terms_9 rfl (lv_at hl 0 rfl) ?_
  refine va_get (D := G) (ci := 4) (v := .int mmn_6) (C := RX4) (T := TX4) (N := 11) hx hb hts hinX4 hown hK.1 hP 0 rfl rfl 3 (by decide) w2 (fun _ h9 => h9) rfl dX4_terms_10 ?_
  refine qf_s (Qf := Qf) hf ?_
  have hP9 : va_P G vwCl [(h, .inr (4, [.int 0, .int mtp, .int mbt, .int mmn_6, .ref a5, .int mrs, .ref a6, .long mlt, .long mlb, .long mht, .long mhb])), (a5, .inl (cI, 64, .inl mte_6)), (a6, .inl (cI, 64, .inl mru))] _ := hP.sub [0, 1, 2] rfl
  have hD9 : va_D A [(h, .inr (4, [.int 0, .int mtp, .int mbt, .int mmn_6, .ref a5, .int mrs, .ref a6, .long mlt, .long mlb, .long mht, .long mhb])), (a5, .inl (cI, 64, .inl mte_6)), (a6, .inl (cI, 64, .inl mru))] := hD.sub [0, 1, 2] (by decide) rfl
  rw [hQf]
  exact W.iret hx hb hr (fun t ht hW => ⟨⟨_, (), rfl, rfl, by rw [ht]; exact hP9, hD9⟩, hS.F ht⟩) hS.2.2 dX4_terms_13
def fX4_term (mtp : Int32) (mbt : Int32) (mth : Int32) (mmn : Int32) (mte : Nat → Int32) (p1 : Int32) : Option (Int32 × Int32 × Int32 × (Nat → Int32)) :=
  bd2 (fX4_findTerms mtp mbt mmn mte) fun mmn_6 mte_6 =>
  if p1 < 0 then
    some ((-1), 0, mmn_6, mte_6)
  else
    if mmn_6 ≤ p1 then
      some ((-1), 0, mmn_6, mte_6)
    else
      ckI p1 64 <|
      some ((mte_6 (Int32.toNatClampNeg p1)), 0, mmn_6, mte_6)
set_option maxHeartbeats 4000000 in
set_option maxRecDepth 100000 in
theorem zX4_term (l : Launch) (G : va_G) (cI : ClassId) (sz : Nat) (h a5 a6 : Nat) (mth : Int32) (mtp : Int32) (mbt : Int32) (mmn : Int32) (mte : Nat → Int32) (mrs : Int32) (mru : Nat → Int32) (mlt : Int64) (mlb : Int64) (mht : Int64) (mhb : Int64) (p1 : Int32) {rv : Int32} {o_mth : Int32} {o_mmn : Int32} {o_mte : Nat → Int32} (hf : fX4_term mtp mbt mth mmn mte p1 = some (rv, o_mth, o_mmn, o_mte)) : mMi l yX4_term wsX4_term ({ frames := 1, cells := 0, slots := 0, locals := 23 }) [.ref h, .int p1] G cI [(h, .inr (4, [.int mth, .int mtp, .int mbt, .int mmn, .ref a5, .int mrs, .ref a6, .long mlt, .long mlb, .long mht, .long mhb])), (a5, .inl (cI, 64, .inl mte)), (a6, .inl (cI, 64, .inl mru))] sz rv [(h, .inr (4, [.int o_mth, .int mtp, .int mbt, .int o_mmn, .ref a5, .int mrs, .ref a6, .long mlt, .long mlb, .long mht, .long mhb])), (a5, .inl (cI, 64, .inl o_mte)), (a6, .inl (cI, 64, .inl mru))] 0 0 := by
  refine Met.ofW (cc := cX4_term) (maxL := 2) (ret := (some .int)) (by decide) rfl ?_
  intro p e s m args below meth c s₁ B hml hv
  obtain ⟨rfl, hsz, hP, hK, hD0⟩ := hv
  have hx := B.exec
  have hb := B.bytes
  have hr := B.returns
  have hts := atoms_spec (ws := wsX4_term) B.pre
  have hown : s.vm.findClass RX4 = some m.cls := findClass_of_methodNamed B.named
  have hlocks := B.notSynchronized
  subst hsz
  have hD := hD0.self (sz := s.heap.size)
  generalize hAe : va_A [(h, .inr (4, [.int mth, .int mtp, .int mbt, .int mmn, .ref a5, .int mrs, .ref a6, .long mlt, .long mlb, .long mht, .long mhb])), (a5, .inl (cI, 64, .inl mte)), (a6, .inl (cI, 64, .inl mru))] s.heap.size = A at hD ⊢
  have hA : ∀ q : Nat, s.heap.size ≤ q → A q := fun q h => by rw [← hAe]; exact Or.inr h
  have hS : va_S A s.heap s.heap [] := va_S.rf
  have w0 := hts (.fieldLink RX4 23 "SternDeskModel" "thrown" "I") (by decide +kernel)
  have hinX4 : ∀ w ∈ u_ws RX4 TX4 11, w ∈ wsX4_term := by decide +kernel
  have w2 := hts (.fieldLink RX4 40 "SternDeskModel" "many" "I") (by decide +kernel)
  have w3 := hts (.fieldLink RX4 16 "SternDeskModel" "terms" "[I") (by decide +kernel)
  obtain ⟨Qf, hQf⟩ : ∃ f : (Int32 × Int32 × Int32 × (Nat → Int32)) → State → Prop, f = fun z => MQ below (va_Qi (fun (r : Int32) (_ : Unit) => r = z.1) (fun _ t => va_P G vwCl [(h, .inr (4, [.int z.2.1, .int mtp, .int mbt, .int z.2.2.1, .ref a5, .int mrs, .ref a6, .long mlt, .long mlb, .long mht, .long mhb])), (a5, .inl (cI, 64, .inl z.2.2.2)), (a6, .inl (cI, 64, .inl mru))] t.heap ∧ va_D A [(h, .inr (4, [.int z.2.1, .int mtp, .int mbt, .int z.2.2.1, .ref a5, .int mrs, .ref a6, .long mlt, .long mlb, .long mht, .long mhb])), (a5, .inl (cI, 64, .inl z.2.2.2)), (a6, .inl (cI, 64, .inl mru))]) A) ([.ref h, .int p1].toArray) s 0 0 A := ⟨_, rfl⟩
  suffices hgo : W p l e (headSpec wsX4_term ({ frames := 1, cells := 0, slots := 0, locals := 23 })).room s m ([.ref h, .int p1].toArray) below meth c s.heap [] 0 0 (Qf (rv, o_mth, o_mmn, o_mte)) (entryFrame m ([.ref h, .int p1].toArray) 2) by rw [hQf] at hgo; exact hgo
  have hl := lv_entry ([.ref h, .int p1]) (n := 2) (Nat.le_of_ble_eq_true rfl)
  rw [lg_entry_eq]
  generalize (lg_sl ([.ref h, .int p1]) ++ List.replicate (2 - (lg_sl ([.ref h, .int p1])).length) Slot.unset).toArray = ls at hl ⊢
  have hl : lv_has ls 2 [(0, .ref h), (1, .int p1)] := hl
  unfold fX4_term at hf
  refine lv_aload_n hx hb dX4_term_0 rfl (lv_at hl 0 rfl) ?_
  refine lv_iconst (v := 0) hx hb dX4_term_1 (by decide) ?_
  refine va_put (D := G) (ci := 4) (v := .int 0) (ty := .int) (C := RX4) (T := TX4) (N := 11) hx hb hts hinX4 tyX4 tyX4_ok nmX4 hown hK.1 hP hD hS 0 rfl rfl 0 (by decide) w0 (fun _ h9 => h9) rfl (by decide +kernel) rfl rfl (Nat.le_of_ble_eq_true rfl) dX4_term_2 (fun H locs hP hD hS => ?_)
  have hP : va_P G vwCl [(h, .inr (4, [.int 0, .int mtp, .int mbt, .int mmn, .ref a5, .int mrs, .ref a6, .long mlt, .long mlb, .long mht, .long mhb])), (a5, .inl (cI, 64, .inl mte)), (a6, .inl (cI, 64, .inl mru))] H := hP
  have hD : va_D A [(h, .inr (4, [.int 0, .int mtp, .int mbt, .int mmn, .ref a5, .int mrs, .ref a6, .long mlt, .long mlb, .long mht, .long mhb])), (a5, .inl (cI, 64, .inl mte)), (a6, .inl (cI, 64, .inl mru))] := hD
  refine lv_aload_n hx hb dX4_term_5 rfl (lv_at hl 0 rfl) ?_
  obtain ⟨mmn_6, mte_6, hv6, hf⟩ := bd2_s hf
  refine mcVv (As := []) (rest := []) (wr := []) (wc := [(h, .inr (4, [.int 0, .int mtp, .int mbt, .int mmn, .ref a5, .int mrs, .ref a6, .long mlt, .long mlb, .long mht, .long mhb])), (a5, .inl (cI, 64, .inl mte)), (a6, .inl (cI, 64, .inl mru))]) ⟨hx, hb, hml, hown, hts⟩ (zX4_findTerms l G cI _ h a5 a6 0 mtp mbt mmn mte mrs mru mlt mlb mht mhb  hv6) (cwV 0 hts gX4_term_X4_findTerms rfl rfl rfl (by decide +kernel) ⟨Nat.le_of_ble_eq_true rfl, Nat.le_of_ble_eq_true rfl⟩) hK hP hD [0, 1, 2] [] rfl rfl rfl (by decide) (by decide) (by decide) rfl rfl rfl hl.1 rfl (Nat.le_of_ble_eq_true rfl) dX4_term_6 ⟨Nat.le_of_ble_eq_true rfl, Nat.le_of_ble_eq_true rfl⟩ hS hA (fun H locs hP hD hz6 hS => ?_)
  have hP : va_P G vwCl [(h, .inr (4, [.int 0, .int mtp, .int mbt, .int mmn_6, .ref a5, .int mrs, .ref a6, .long mlt, .long mlb, .long mht, .long mhb])), (a5, .inl (cI, 64, .inl mte_6)), (a6, .inl (cI, 64, .inl mru))] H := hP
  have hD : va_D A [(h, .inr (4, [.int 0, .int mtp, .int mbt, .int mmn_6, .ref a5, .int mrs, .ref a6, .long mlt, .long mlb, .long mht, .long mhb])), (a5, .inl (cI, 64, .inl mte_6)), (a6, .inl (cI, 64, .inl mru))] := hD
  refine lv_iload_n hx hb dX4_term_9 rfl (lv_at hl 1 rfl) ?_
  refine lv_if_lt (tgt := 30) hx hb dX4_term_10 (by decide) (fun c10 => ?_) (fun c10 => ?_)
  · have hf := it_t c10 hf
    refine lv_iconst (v := (-1)) hx hb dX4_term_30 (by decide) ?_
    refine qf_s (Qf := Qf) hf ?_
    have hP9 : va_P G vwCl [(h, .inr (4, [.int 0, .int mtp, .int mbt, .int mmn_6, .ref a5, .int mrs, .ref a6, .long mlt, .long mlb, .long mht, .long mhb])), (a5, .inl (cI, 64, .inl mte_6)), (a6, .inl (cI, 64, .inl mru))] _ := hP.sub [0, 1, 2] rfl
    have hD9 : va_D A [(h, .inr (4, [.int 0, .int mtp, .int mbt, .int mmn_6, .ref a5, .int mrs, .ref a6, .long mlt, .long mlb, .long mht, .long mhb])), (a5, .inl (cI, 64, .inl mte_6)), (a6, .inl (cI, 64, .inl mru))] := hD.sub [0, 1, 2] (by decide) rfl
    rw [hQf]
    exact W.iret hx hb hr (fun t ht hW => ⟨⟨_, (), rfl, rfl, by rw [ht]; exact hP9, hD9⟩, hS.F ht⟩) hS.2.2 dX4_term_31
  · have hf := it_f c10 hf
    refine lv_iload_n hx hb dX4_term_13 rfl (lv_at hl 1 rfl) ?_
    refine lv_aload_n hx hb dX4_term_14 rfl (lv_at hl 0 rfl) ?_
    refine va_get (D := G) (ci := 4) (v := .int mmn_6) (C := RX4) (T := TX4) (N := 11) hx hb hts hinX4 hown hK.1 hP 0 rfl rfl 3 (by decide) w2 (fun _ h9 => h9) rfl dX4_term_15 ?_
    refine lv_icmp_ge (tgt := 30) hx hb dX4_term_18 (by decide) (fun c18 => ?_) (fun c18 => ?_)
    · have hf := it_t c18 hf
      refine lv_iconst (v := (-1)) hx hb dX4_term_30 (by decide) ?_
      refine qf_s (Qf := Qf) hf ?_
      have hP9 : va_P G vwCl [(h, .inr (4, [.int 0, .int mtp, .int mbt, .int mmn_6, .ref a5, .int mrs, .ref a6, .long mlt, .long mlb, .long mht, .long mhb])), (a5, .inl (cI, 64, .inl mte_6)), (a6, .inl (cI, 64, .inl mru))] _ := hP.sub [0, 1, 2] rfl
      have hD9 : va_D A [(h, .inr (4, [.int 0, .int mtp, .int mbt, .int mmn_6, .ref a5, .int mrs, .ref a6, .long mlt, .long mlb, .long mht, .long mhb])), (a5, .inl (cI, 64, .inl mte_6)), (a6, .inl (cI, 64, .inl mru))] := hD.sub [0, 1, 2] (by decide) rfl
      rw [hQf]
      exact W.iret hx hb hr (fun t ht hW => ⟨⟨_, (), rfl, rfl, by rw [ht]; exact hP9, hD9⟩, hS.F ht⟩) hS.2.2 dX4_term_31
    · have hf := it_f c18 hf
      refine lv_aload_n hx hb dX4_term_21 rfl (lv_at hl 0 rfl) ?_
      refine va_get (D := G) (ci := 4) (v := .ref a5) (C := RX4) (T := TX4) (N := 11) hx hb hts hinX4 hown hK.1 hP 0 rfl rfl 4 (by decide) w3 (fun _ h9 => h9) rfl dX4_term_22 ?_
      refine lv_iload_n hx hb dX4_term_25 rfl (lv_at hl 1 rfl) ?_
      obtain ⟨hi26, hf⟩ := ckI_s hf
      refine va_iald hx hb hK.1 hP 1 0 rfl rfl hi26 dX4_term_26 ?_
      refine lv_goto (tgt := 31) hx hb dX4_term_27 (by decide) ?_
      refine qf_s (Qf := Qf) hf ?_
      have hP9 : va_P G vwCl [(h, .inr (4, [.int 0, .int mtp, .int mbt, .int mmn_6, .ref a5, .int mrs, .ref a6, .long mlt, .long mlb, .long mht, .long mhb])), (a5, .inl (cI, 64, .inl mte_6)), (a6, .inl (cI, 64, .inl mru))] _ := hP.sub [0, 1, 2] rfl
      have hD9 : va_D A [(h, .inr (4, [.int 0, .int mtp, .int mbt, .int mmn_6, .ref a5, .int mrs, .ref a6, .long mlt, .long mlb, .long mht, .long mhb])), (a5, .inl (cI, 64, .inl mte_6)), (a6, .inl (cI, 64, .inl mru))] := hD.sub [0, 1, 2] (by decide) rfl
      rw [hQf]
      exact W.iret hx hb hr (fun t ht hW => ⟨⟨_, (), rfl, rfl, by rw [ht]; exact hP9, hD9⟩, hS.F ht⟩) hS.2.2 dX4_term_31
def fX4_convergent_B48 (k48 : Int32 → Int32 → (Nat → Int32) → Int32 → Int64 → Int64 → Int32 → Option (Int32 × Int32 × Int32 × (Nat → Int32))) (mtp : Int32) (mbt : Int32) (mth : Int32) (mmn : Int32) (mte : Nat → Int32) (x2 : Int32) (x3 : Int64) (x5 : Int64) (x7 : Int32) : Option (Int32 × Int32 × Int32 × (Nat → Int32)) :=
  if x7 < 0 then
    bd1 (fX4_common x3 x5) fun r83 =>
    if x2 = 0 then
      ckL r83 <|
      some ((Int64.toInt32 (x3 / r83)), mth, mmn, mte)
    else
      ckL r83 <|
      some ((Int64.toInt32 (x5 / r83)), mth, mmn, mte)
  else
    ckI x7 64 <|
    nm (((Int32.toInt64 (mte (Int32.toNatClampNeg x7))) * x3) + x5) fun v66 =>
    nm (x7 + (-1)) fun v74 =>
    k48 mth mmn mte x2 v66 x3 v74
def fX4_convergent_L48 (mtp : Int32) (mbt : Int32) : Nat → Int32 → Int32 → (Nat → Int32) → Int32 → Int64 → Int64 → Int32 → Option (Int32 × Int32 × Int32 × (Nat → Int32))
  | 0, _, _, _, _, _, _, _ => none
  | n + 1, mth, mmn, mte, x2, x3, x5, x7 => fX4_convergent_B48 (fX4_convergent_L48  mtp mbt n) mtp mbt mth mmn mte x2 x3 x5 x7
def fX4_convergent_J32 (mtp : Int32) (mbt : Int32) (mth : Int32) (mmn : Int32) (mte : Nat → Int32) (x1 : Int32) (x2 : Int32) : Option (Int32 × Int32 × Int32 × (Nat → Int32)) :=
  ckI x1 64 <|
  nm (Int32.toInt64 (mte (Int32.toNatClampNeg x1))) fun v39 =>
  nm (x1 - 1) fun v46 =>
  fX4_convergent_L48  mtp mbt FU mth mmn mte x2 v39 1 v46
def fX4_convergent (mtp : Int32) (mbt : Int32) (mth : Int32) (mmn : Int32) (mte : Nat → Int32) (p1 : Int32) (p2 : Int32) : Option (Int32 × Int32 × Int32 × (Nat → Int32)) :=
  bd2 (fX4_findTerms mtp mbt mmn mte) fun mmn_6 mte_6 =>
  if p1 < 0 then
    some ((-1), 0, mmn_6, mte_6)
  else
    if mmn_6 ≤ p1 then
      some ((-1), 0, mmn_6, mte_6)
    else
      if p2 = 0 then
        fX4_convergent_J32  mtp mbt 0 mmn_6 mte_6 p1 p2
      else
        if p2 = 1 then
          fX4_convergent_J32  mtp mbt 0 mmn_6 mte_6 p1 p2
        else
          some ((-1), 0, mmn_6, mte_6)
set_option maxHeartbeats 4000000 in
set_option maxRecDepth 100000 in
theorem zX4_convergent (l : Launch) (G : va_G) (cI : ClassId) (sz : Nat) (h a5 a6 : Nat) (mth : Int32) (mtp : Int32) (mbt : Int32) (mmn : Int32) (mte : Nat → Int32) (mrs : Int32) (mru : Nat → Int32) (mlt : Int64) (mlb : Int64) (mht : Int64) (mhb : Int64) (p1 : Int32) (p2 : Int32) {rv : Int32} {o_mth : Int32} {o_mmn : Int32} {o_mte : Nat → Int32} (hf : fX4_convergent mtp mbt mth mmn mte p1 p2 = some (rv, o_mth, o_mmn, o_mte)) : mMi l yX4_convergent wsX4_convergent ({ frames := 1, cells := 0, slots := 0, locals := 29 }) [.ref h, .int p1, .int p2] G cI [(h, .inr (4, [.int mth, .int mtp, .int mbt, .int mmn, .ref a5, .int mrs, .ref a6, .long mlt, .long mlb, .long mht, .long mhb])), (a5, .inl (cI, 64, .inl mte)), (a6, .inl (cI, 64, .inl mru))] sz rv [(h, .inr (4, [.int o_mth, .int mtp, .int mbt, .int o_mmn, .ref a5, .int mrs, .ref a6, .long mlt, .long mlb, .long mht, .long mhb])), (a5, .inl (cI, 64, .inl o_mte)), (a6, .inl (cI, 64, .inl mru))] 0 0 := by
  refine Met.ofW (cc := cX4_convergent) (maxL := 10) (ret := (some .int)) (by decide) rfl ?_
  intro p e s m args below meth c s₁ B hml hv
  obtain ⟨rfl, hsz, hP, hK, hD0⟩ := hv
  have hx := B.exec
  have hb := B.bytes
  have hr := B.returns
  have hts := atoms_spec (ws := wsX4_convergent) B.pre
  have hown : s.vm.findClass RX4 = some m.cls := findClass_of_methodNamed B.named
  have hlocks := B.notSynchronized
  subst hsz
  have hD := hD0.self (sz := s.heap.size)
  generalize hAe : va_A [(h, .inr (4, [.int mth, .int mtp, .int mbt, .int mmn, .ref a5, .int mrs, .ref a6, .long mlt, .long mlb, .long mht, .long mhb])), (a5, .inl (cI, 64, .inl mte)), (a6, .inl (cI, 64, .inl mru))] s.heap.size = A at hD ⊢
  have hA : ∀ q : Nat, s.heap.size ≤ q → A q := fun q h => by rw [← hAe]; exact Or.inr h
  have hS : va_S A s.heap s.heap [] := va_S.rf
  have w0 := hts (.fieldLink RX4 23 "SternDeskModel" "thrown" "I") (by decide +kernel)
  have hinX4 : ∀ w ∈ u_ws RX4 TX4 11, w ∈ wsX4_convergent := by decide +kernel
  have w2 := hts (.fieldLink RX4 40 "SternDeskModel" "many" "I") (by decide +kernel)
  have w3 := hts (.fieldLink RX4 16 "SternDeskModel" "terms" "[I") (by decide +kernel)
  obtain ⟨Qf, hQf⟩ : ∃ f : (Int32 × Int32 × Int32 × (Nat → Int32)) → State → Prop, f = fun z => MQ below (va_Qi (fun (r : Int32) (_ : Unit) => r = z.1) (fun _ t => va_P G vwCl [(h, .inr (4, [.int z.2.1, .int mtp, .int mbt, .int z.2.2.1, .ref a5, .int mrs, .ref a6, .long mlt, .long mlb, .long mht, .long mhb])), (a5, .inl (cI, 64, .inl z.2.2.2)), (a6, .inl (cI, 64, .inl mru))] t.heap ∧ va_D A [(h, .inr (4, [.int z.2.1, .int mtp, .int mbt, .int z.2.2.1, .ref a5, .int mrs, .ref a6, .long mlt, .long mlb, .long mht, .long mhb])), (a5, .inl (cI, 64, .inl z.2.2.2)), (a6, .inl (cI, 64, .inl mru))]) A) ([.ref h, .int p1, .int p2].toArray) s 0 0 A := ⟨_, rfl⟩
  suffices hgo : W p l e (headSpec wsX4_convergent ({ frames := 1, cells := 0, slots := 0, locals := 29 })).room s m ([.ref h, .int p1, .int p2].toArray) below meth c s.heap [] 0 0 (Qf (rv, o_mth, o_mmn, o_mte)) (entryFrame m ([.ref h, .int p1, .int p2].toArray) 10) by rw [hQf] at hgo; exact hgo
  have B48 : ∀ (k48 : Int32 → Int32 → (Nat → Int32) → Int32 → Int64 → Int64 → Int32 → Option (Int32 × Int32 × Int32 × (Nat → Int32))) (hk48 : ∀ (mth : Int32) (mmn : Int32) (mte : Nat → Int32) (x2 : Int32) (x3 : Int64) (x5 : Int64) (x7 : Int32) (H : Heap) (locs : List Loc) (ls : Array Slot), k48 mth mmn mte x2 x3 x5 x7 = some (rv, o_mth, o_mmn, o_mte) → va_P G vwCl [(h, .inr (4, [.int mth, .int mtp, .int mbt, .int mmn, .ref a5, .int mrs, .ref a6, .long mlt, .long mlb, .long mht, .long mhb])), (a5, .inl (cI, 64, .inl mte)), (a6, .inl (cI, 64, .inl mru))] H → va_D A [(h, .inr (4, [.int mth, .int mtp, .int mbt, .int mmn, .ref a5, .int mrs, .ref a6, .long mlt, .long mlb, .long mht, .long mhb])), (a5, .inl (cI, 64, .inl mte)), (a6, .inl (cI, 64, .inl mru))] → va_S A s.heap H locs → lv_has ls 10 [(0, .ref h), (2, .int x2), (3, .long x3), (5, .long x5), (7, .int x7)] → W p l e (headSpec wsX4_convergent ({ frames := 1, cells := 0, slots := 0, locals := 29 })).room s m ([.ref h, .int p1, .int p2].toArray) below meth c H locs 0 0 (Qf (rv, o_mth, o_mmn, o_mte)) (F0 m 48 ls [])) (mth : Int32) (mmn : Int32) (mte : Nat → Int32) (x2 : Int32) (x3 : Int64) (x5 : Int64) (x7 : Int32) (H : Heap) (locs : List Loc) (ls : Array Slot), fX4_convergent_B48 k48 mtp mbt mth mmn mte x2 x3 x5 x7 = some (rv, o_mth, o_mmn, o_mte) → va_P G vwCl [(h, .inr (4, [.int mth, .int mtp, .int mbt, .int mmn, .ref a5, .int mrs, .ref a6, .long mlt, .long mlb, .long mht, .long mhb])), (a5, .inl (cI, 64, .inl mte)), (a6, .inl (cI, 64, .inl mru))] H → va_D A [(h, .inr (4, [.int mth, .int mtp, .int mbt, .int mmn, .ref a5, .int mrs, .ref a6, .long mlt, .long mlb, .long mht, .long mhb])), (a5, .inl (cI, 64, .inl mte)), (a6, .inl (cI, 64, .inl mru))] → va_S A s.heap H locs → lv_has ls 10 [(0, .ref h), (2, .int x2), (3, .long x3), (5, .long x5), (7, .int x7)] → W p l e (headSpec wsX4_convergent ({ frames := 1, cells := 0, slots := 0, locals := 29 })).room s m ([.ref h, .int p1, .int p2].toArray) below meth c H locs 0 0 (Qf (rv, o_mth, o_mmn, o_mte)) (F0 m 48 ls []) := by
    intro k48 hk48  mth mmn mte x2 x3 x5 x7 H locs ls hf hP hD hS hl
    unfold fX4_convergent_B48 at hf
    refine lv_iload hx hb dX4_convergent_48 (lv_at hl 4 rfl) ?_
    refine lv_if_lt (tgt := 80) hx hb dX4_convergent_50 (by decide) (fun c50 => ?_) (fun c50 => ?_)
    · have hf := it_t c50 hf
      refine lv_lload_n hx hb dX4_convergent_80 rfl (lv_at hl 2 rfl) ?_
      refine lv_lload hx hb dX4_convergent_81 (lv_at hl 3 rfl) ?_
      obtain ⟨r83, hv83, hf⟩ := bd1_s hf
      refine roSl (As := [.long x3, .long x5]) (rest := []) ⟨hx, hb, hml, hown, hts⟩ (zX4_common l G cI _ x3 x5 hv83) (va_cwS 2 hts gX4_convergent_X4_common rfl rfl rfl (by decide +kernel) ⟨Nat.le_of_ble_eq_true rfl, Nat.le_of_ble_eq_true rfl⟩) hK hP rfl hl.1 rfl (Nat.le_of_ble_eq_true rfl) dX4_convergent_83 ⟨Nat.le_of_ble_eq_true rfl, Nat.le_of_ble_eq_true rfl⟩ hS hA (fun H locs hP hz83 hS => ?_)
      refine lv_lstore (lv' := [(7, .long r83), (0, .ref h), (2, .int x2), (3, .long x3), (5, .long x5)]) hx hb dX4_convergent_86 hl (by decide) rfl (fun ls hl => ?_)
      refine lv_iload_n hx hb dX4_convergent_88 rfl (lv_at hl 2 rfl) ?_
      refine lv_if_ne (tgt := 99) hx hb dX4_convergent_89 (by decide) (fun c89 => ?_) (fun c89 => ?_)
      · have hf := it_f c89 hf
        refine lv_lload hx hb dX4_convergent_99 (lv_at hl 4 rfl) ?_
        refine lv_lload hx hb dX4_convergent_101 (lv_at hl 0 rfl) ?_
        obtain ⟨hz103, hf⟩ := ckL_s hf
        refine lv_ldiv hx hb dX4_convergent_103 hz103 ?_
        refine lv_l2i hx hb dX4_convergent_104 rfl ?_
        refine qf_s (Qf := Qf) hf ?_
        have hP9 : va_P G vwCl [(h, .inr (4, [.int mth, .int mtp, .int mbt, .int mmn, .ref a5, .int mrs, .ref a6, .long mlt, .long mlb, .long mht, .long mhb])), (a5, .inl (cI, 64, .inl mte)), (a6, .inl (cI, 64, .inl mru))] _ := hP.sub [0, 1, 2] rfl
        have hD9 : va_D A [(h, .inr (4, [.int mth, .int mtp, .int mbt, .int mmn, .ref a5, .int mrs, .ref a6, .long mlt, .long mlb, .long mht, .long mhb])), (a5, .inl (cI, 64, .inl mte)), (a6, .inl (cI, 64, .inl mru))] := hD.sub [0, 1, 2] (by decide) rfl
        rw [hQf]
        exact W.iret hx hb hr (fun t ht hW => ⟨⟨_, (), rfl, rfl, by rw [ht]; exact hP9, hD9⟩, hS.F ht⟩) hS.2.2 dX4_convergent_105
      · have hf := it_t c89 hf
        refine lv_lload_n hx hb dX4_convergent_92 rfl (lv_at hl 3 rfl) ?_
        refine lv_lload hx hb dX4_convergent_93 (lv_at hl 0 rfl) ?_
        obtain ⟨hz95, hf⟩ := ckL_s hf
        refine lv_ldiv hx hb dX4_convergent_95 hz95 ?_
        refine lv_goto (tgt := 104) hx hb dX4_convergent_96 (by decide) ?_
        refine lv_l2i hx hb dX4_convergent_104 rfl ?_
        refine qf_s (Qf := Qf) hf ?_
        have hP9 : va_P G vwCl [(h, .inr (4, [.int mth, .int mtp, .int mbt, .int mmn, .ref a5, .int mrs, .ref a6, .long mlt, .long mlb, .long mht, .long mhb])), (a5, .inl (cI, 64, .inl mte)), (a6, .inl (cI, 64, .inl mru))] _ := hP.sub [0, 1, 2] rfl
        have hD9 : va_D A [(h, .inr (4, [.int mth, .int mtp, .int mbt, .int mmn, .ref a5, .int mrs, .ref a6, .long mlt, .long mlb, .long mht, .long mhb])), (a5, .inl (cI, 64, .inl mte)), (a6, .inl (cI, 64, .inl mru))] := hD.sub [0, 1, 2] (by decide) rfl
        rw [hQf]
        exact W.iret hx hb hr (fun t ht hW => ⟨⟨_, (), rfl, rfl, by rw [ht]; exact hP9, hD9⟩, hS.F ht⟩) hS.2.2 dX4_convergent_105
    · have hf := it_f c50 hf
      refine lv_aload_n hx hb dX4_convergent_53 rfl (lv_at hl 0 rfl) ?_
      refine va_get (D := G) (ci := 4) (v := .ref a5) (C := RX4) (T := TX4) (N := 11) hx hb hts hinX4 hown hK.1 hP 0 rfl rfl 4 (by decide) w3 (fun _ h9 => h9) rfl dX4_convergent_54 ?_
      refine lv_iload hx hb dX4_convergent_57 (lv_at hl 4 rfl) ?_
      obtain ⟨hi59, hf⟩ := ckI_s hf
      refine va_iald hx hb hK.1 hP 1 0 rfl rfl hi59 dX4_convergent_59 ?_
      refine lv_i2l hx hb dX4_convergent_60 rfl ?_
      refine lv_lload_n hx hb dX4_convergent_61 rfl (lv_at hl 2 rfl) ?_
      refine lv_lmul hx hb dX4_convergent_62 ?_
      refine lv_lload hx hb dX4_convergent_63 (lv_at hl 3 rfl) ?_
      refine lv_ladd hx hb dX4_convergent_65 ?_
      refine lv_topl (fun v66 ev66 => ?_)
      have hf := nm_s ev66 hf
      refine lv_lstore (lv' := [(8, .long v66), (0, .ref h), (2, .int x2), (3, .long x3), (5, .long x5), (7, .int x7)]) hx hb dX4_convergent_66 hl (by decide) rfl (fun ls hl => ?_)
      refine lv_lload_n hx hb dX4_convergent_68 rfl (lv_at hl 3 rfl) ?_
      refine lv_lstore (lv' := [(5, .long x3), (8, .long v66), (0, .ref h), (2, .int x2), (3, .long x3), (7, .int x7)]) hx hb dX4_convergent_69 hl (by decide) rfl (fun ls hl => ?_)
      refine lv_lload hx hb dX4_convergent_71 (lv_at hl 1 rfl) ?_
      refine lv_lstore_n (lv' := [(3, .long v66), (5, .long x3), (8, .long v66), (0, .ref h), (2, .int x2), (7, .int x7)]) hx hb dX4_convergent_73 rfl hl (by decide) rfl (fun ls hl => ?_)
      obtain ⟨v74, ev74⟩ : ∃ y : Int32, y = x7 + (-1) := ⟨_, rfl⟩
      have hf := nm_s ev74 hf
      refine lv_iinc (v := v74) (lv' := [(7, .int v74), (3, .long v66), (5, .long x3), (8, .long v66), (0, .ref h), (2, .int x2)]) hx hb dX4_convergent_74 hl (k := 5) rfl (by rw [ev74]; rfl) (by decide) rfl (fun ls hl => ?_)
      refine lv_goto (tgt := 48) hx hb dX4_convergent_77 (by decide) ?_
      exact hk48  mth mmn mte x2 v66 x3 v74 _ _ _ hf hP hD hS (lv_sub hl [4, 5, 1, 2, 0] rfl)
  have L48 : ∀ (fu : Nat) (mth : Int32) (mmn : Int32) (mte : Nat → Int32) (x2 : Int32) (x3 : Int64) (x5 : Int64) (x7 : Int32) (H : Heap) (locs : List Loc) (ls : Array Slot), fX4_convergent_L48  mtp mbt fu mth mmn mte x2 x3 x5 x7 = some (rv, o_mth, o_mmn, o_mte) → va_P G vwCl [(h, .inr (4, [.int mth, .int mtp, .int mbt, .int mmn, .ref a5, .int mrs, .ref a6, .long mlt, .long mlb, .long mht, .long mhb])), (a5, .inl (cI, 64, .inl mte)), (a6, .inl (cI, 64, .inl mru))] H → va_D A [(h, .inr (4, [.int mth, .int mtp, .int mbt, .int mmn, .ref a5, .int mrs, .ref a6, .long mlt, .long mlb, .long mht, .long mhb])), (a5, .inl (cI, 64, .inl mte)), (a6, .inl (cI, 64, .inl mru))] → va_S A s.heap H locs → lv_has ls 10 [(0, .ref h), (2, .int x2), (3, .long x3), (5, .long x5), (7, .int x7)] → W p l e (headSpec wsX4_convergent ({ frames := 1, cells := 0, slots := 0, locals := 29 })).room s m ([.ref h, .int p1, .int p2].toArray) below meth c H locs 0 0 (Qf (rv, o_mth, o_mmn, o_mte)) (F0 m 48 ls []) := by
    intro  fu
    induction fu with
    | zero => intro  mth mmn mte x2 x3 x5 x7 H locs ls hf; cases hf
    | succ fu ih => intro  mth mmn mte x2 x3 x5 x7 H locs ls hf hP hD hS hl; exact B48 (fX4_convergent_L48  mtp mbt fu) ih  mth mmn mte x2 x3 x5 x7 _ _ _ hf hP hD hS hl
  have J32 : ∀ (mth : Int32) (mmn : Int32) (mte : Nat → Int32) (x1 : Int32) (x2 : Int32) (H : Heap) (locs : List Loc) (ls : Array Slot), fX4_convergent_J32  mtp mbt mth mmn mte x1 x2 = some (rv, o_mth, o_mmn, o_mte) → va_P G vwCl [(h, .inr (4, [.int mth, .int mtp, .int mbt, .int mmn, .ref a5, .int mrs, .ref a6, .long mlt, .long mlb, .long mht, .long mhb])), (a5, .inl (cI, 64, .inl mte)), (a6, .inl (cI, 64, .inl mru))] H → va_D A [(h, .inr (4, [.int mth, .int mtp, .int mbt, .int mmn, .ref a5, .int mrs, .ref a6, .long mlt, .long mlb, .long mht, .long mhb])), (a5, .inl (cI, 64, .inl mte)), (a6, .inl (cI, 64, .inl mru))] → va_S A s.heap H locs → lv_has ls 10 [(0, .ref h), (1, .int x1), (2, .int x2)] → W p l e (headSpec wsX4_convergent ({ frames := 1, cells := 0, slots := 0, locals := 29 })).room s m ([.ref h, .int p1, .int p2].toArray) below meth c H locs 0 0 (Qf (rv, o_mth, o_mmn, o_mte)) (F0 m 32 ls []) := by
    intro   mth mmn mte x1 x2 H locs ls hf hP hD hS hl
    unfold fX4_convergent_J32 at hf
    refine lv_aload_n hx hb dX4_convergent_32 rfl (lv_at hl 0 rfl) ?_
    refine va_get (D := G) (ci := 4) (v := .ref a5) (C := RX4) (T := TX4) (N := 11) hx hb hts hinX4 hown hK.1 hP 0 rfl rfl 4 (by decide) w3 (fun _ h9 => h9) rfl dX4_convergent_33 ?_
    refine lv_iload_n hx hb dX4_convergent_36 rfl (lv_at hl 1 rfl) ?_
    obtain ⟨hi37, hf⟩ := ckI_s hf
    refine va_iald hx hb hK.1 hP 1 0 rfl rfl hi37 dX4_convergent_37 ?_
    refine lv_i2l hx hb dX4_convergent_38 rfl ?_
    refine lv_topl (fun v39 ev39 => ?_)
    have hf := nm_s ev39 hf
    refine lv_lstore_n (lv' := [(3, .long v39), (0, .ref h), (1, .int x1), (2, .int x2)]) hx hb dX4_convergent_39 rfl hl (by decide) rfl (fun ls hl => ?_)
    refine lv_lconst (v := 1) hx hb dX4_convergent_40 (by decide) ?_
    refine lv_lstore (lv' := [(5, .long 1), (3, .long v39), (0, .ref h), (1, .int x1), (2, .int x2)]) hx hb dX4_convergent_41 hl (by decide) rfl (fun ls hl => ?_)
    refine lv_iload_n hx hb dX4_convergent_43 rfl (lv_at hl 3 rfl) ?_
    refine lv_iconst (v := 1) hx hb dX4_convergent_44 (by decide) ?_
    refine lv_isub hx hb dX4_convergent_45 ?_
    refine lv_topi (fun v46 ev46 => ?_)
    have hf := nm_s ev46 hf
    refine lv_istore (lv' := [(7, .int v46), (5, .long 1), (3, .long v39), (0, .ref h), (1, .int x1), (2, .int x2)]) hx hb dX4_convergent_46 hl (by decide) rfl (fun ls hl => ?_)
    exact L48  FU  mth mmn mte x2 v39 1 v46 _ _ _ hf hP hD hS (lv_sub hl [3, 5, 2, 1, 0] rfl)
  have hl := lv_entry ([.ref h, .int p1, .int p2]) (n := 10) (Nat.le_of_ble_eq_true rfl)
  rw [lg_entry_eq]
  generalize (lg_sl ([.ref h, .int p1, .int p2]) ++ List.replicate (10 - (lg_sl ([.ref h, .int p1, .int p2])).length) Slot.unset).toArray = ls at hl ⊢
  have hl : lv_has ls 10 [(0, .ref h), (1, .int p1), (2, .int p2)] := hl
  unfold fX4_convergent at hf
  refine lv_aload_n hx hb dX4_convergent_0 rfl (lv_at hl 0 rfl) ?_
  refine lv_iconst (v := 0) hx hb dX4_convergent_1 (by decide) ?_
  refine va_put (D := G) (ci := 4) (v := .int 0) (ty := .int) (C := RX4) (T := TX4) (N := 11) hx hb hts hinX4 tyX4 tyX4_ok nmX4 hown hK.1 hP hD hS 0 rfl rfl 0 (by decide) w0 (fun _ h9 => h9) rfl (by decide +kernel) rfl rfl (Nat.le_of_ble_eq_true rfl) dX4_convergent_2 (fun H locs hP hD hS => ?_)
  have hP : va_P G vwCl [(h, .inr (4, [.int 0, .int mtp, .int mbt, .int mmn, .ref a5, .int mrs, .ref a6, .long mlt, .long mlb, .long mht, .long mhb])), (a5, .inl (cI, 64, .inl mte)), (a6, .inl (cI, 64, .inl mru))] H := hP
  have hD : va_D A [(h, .inr (4, [.int 0, .int mtp, .int mbt, .int mmn, .ref a5, .int mrs, .ref a6, .long mlt, .long mlb, .long mht, .long mhb])), (a5, .inl (cI, 64, .inl mte)), (a6, .inl (cI, 64, .inl mru))] := hD
  refine lv_aload_n hx hb dX4_convergent_5 rfl (lv_at hl 0 rfl) ?_
  obtain ⟨mmn_6, mte_6, hv6, hf⟩ := bd2_s hf
  refine mcVv (As := []) (rest := []) (wr := []) (wc := [(h, .inr (4, [.int 0, .int mtp, .int mbt, .int mmn, .ref a5, .int mrs, .ref a6, .long mlt, .long mlb, .long mht, .long mhb])), (a5, .inl (cI, 64, .inl mte)), (a6, .inl (cI, 64, .inl mru))]) ⟨hx, hb, hml, hown, hts⟩ (zX4_findTerms l G cI _ h a5 a6 0 mtp mbt mmn mte mrs mru mlt mlb mht mhb  hv6) (cwV 0 hts gX4_convergent_X4_findTerms rfl rfl rfl (by decide +kernel) ⟨Nat.le_of_ble_eq_true rfl, Nat.le_of_ble_eq_true rfl⟩) hK hP hD [0, 1, 2] [] rfl rfl rfl (by decide) (by decide) (by decide) rfl rfl rfl hl.1 rfl (Nat.le_of_ble_eq_true rfl) dX4_convergent_6 ⟨Nat.le_of_ble_eq_true rfl, Nat.le_of_ble_eq_true rfl⟩ hS hA (fun H locs hP hD hz6 hS => ?_)
  have hP : va_P G vwCl [(h, .inr (4, [.int 0, .int mtp, .int mbt, .int mmn_6, .ref a5, .int mrs, .ref a6, .long mlt, .long mlb, .long mht, .long mhb])), (a5, .inl (cI, 64, .inl mte_6)), (a6, .inl (cI, 64, .inl mru))] H := hP
  have hD : va_D A [(h, .inr (4, [.int 0, .int mtp, .int mbt, .int mmn_6, .ref a5, .int mrs, .ref a6, .long mlt, .long mlb, .long mht, .long mhb])), (a5, .inl (cI, 64, .inl mte_6)), (a6, .inl (cI, 64, .inl mru))] := hD
  refine lv_iload_n hx hb dX4_convergent_9 rfl (lv_at hl 1 rfl) ?_
  refine lv_if_lt (tgt := 30) hx hb dX4_convergent_10 (by decide) (fun c10 => ?_) (fun c10 => ?_)
  · have hf := it_t c10 hf
    refine lv_iconst (v := (-1)) hx hb dX4_convergent_30 (by decide) ?_
    refine qf_s (Qf := Qf) hf ?_
    have hP9 : va_P G vwCl [(h, .inr (4, [.int 0, .int mtp, .int mbt, .int mmn_6, .ref a5, .int mrs, .ref a6, .long mlt, .long mlb, .long mht, .long mhb])), (a5, .inl (cI, 64, .inl mte_6)), (a6, .inl (cI, 64, .inl mru))] _ := hP.sub [0, 1, 2] rfl
    have hD9 : va_D A [(h, .inr (4, [.int 0, .int mtp, .int mbt, .int mmn_6, .ref a5, .int mrs, .ref a6, .long mlt, .long mlb, .long mht, .long mhb])), (a5, .inl (cI, 64, .inl mte_6)), (a6, .inl (cI, 64, .inl mru))] := hD.sub [0, 1, 2] (by decide) rfl
    rw [hQf]
    exact W.iret hx hb hr (fun t ht hW => ⟨⟨_, (), rfl, rfl, by rw [ht]; exact hP9, hD9⟩, hS.F ht⟩) hS.2.2 dX4_convergent_31
  · have hf := it_f c10 hf
    refine lv_iload_n hx hb dX4_convergent_13 rfl (lv_at hl 1 rfl) ?_
    refine lv_aload_n hx hb dX4_convergent_14 rfl (lv_at hl 0 rfl) ?_
    refine va_get (D := G) (ci := 4) (v := .int mmn_6) (C := RX4) (T := TX4) (N := 11) hx hb hts hinX4 hown hK.1 hP 0 rfl rfl 3 (by decide) w2 (fun _ h9 => h9) rfl dX4_convergent_15 ?_
    refine lv_icmp_ge (tgt := 30) hx hb dX4_convergent_18 (by decide) (fun c18 => ?_) (fun c18 => ?_)
    · have hf := it_t c18 hf
      refine lv_iconst (v := (-1)) hx hb dX4_convergent_30 (by decide) ?_
      refine qf_s (Qf := Qf) hf ?_
      have hP9 : va_P G vwCl [(h, .inr (4, [.int 0, .int mtp, .int mbt, .int mmn_6, .ref a5, .int mrs, .ref a6, .long mlt, .long mlb, .long mht, .long mhb])), (a5, .inl (cI, 64, .inl mte_6)), (a6, .inl (cI, 64, .inl mru))] _ := hP.sub [0, 1, 2] rfl
      have hD9 : va_D A [(h, .inr (4, [.int 0, .int mtp, .int mbt, .int mmn_6, .ref a5, .int mrs, .ref a6, .long mlt, .long mlb, .long mht, .long mhb])), (a5, .inl (cI, 64, .inl mte_6)), (a6, .inl (cI, 64, .inl mru))] := hD.sub [0, 1, 2] (by decide) rfl
      rw [hQf]
      exact W.iret hx hb hr (fun t ht hW => ⟨⟨_, (), rfl, rfl, by rw [ht]; exact hP9, hD9⟩, hS.F ht⟩) hS.2.2 dX4_convergent_31
    · have hf := it_f c18 hf
      refine lv_iload_n hx hb dX4_convergent_21 rfl (lv_at hl 2 rfl) ?_
      refine lv_if_eq (tgt := 32) hx hb dX4_convergent_22 (by decide) (fun c22 => ?_) (fun c22 => ?_)
      · have hf := it_t c22 hf
        exact J32   0 mmn_6 mte_6 p1 p2 _ _ _ hf hP hD hS (lv_sub hl [0, 1, 2] rfl)
      · have hf := it_f c22 hf
        refine lv_iload_n hx hb dX4_convergent_25 rfl (lv_at hl 2 rfl) ?_
        refine lv_iconst (v := 1) hx hb dX4_convergent_26 (by decide) ?_
        refine lv_icmp_eq (tgt := 32) hx hb dX4_convergent_27 (by decide) (fun c27 => ?_) (fun c27 => ?_)
        · have hf := it_t c27 hf
          exact J32   0 mmn_6 mte_6 p1 p2 _ _ _ hf hP hD hS (lv_sub hl [0, 1, 2] rfl)
        · have hf := it_f c27 hf
          refine lv_iconst (v := (-1)) hx hb dX4_convergent_30 (by decide) ?_
          refine qf_s (Qf := Qf) hf ?_
          have hP9 : va_P G vwCl [(h, .inr (4, [.int 0, .int mtp, .int mbt, .int mmn_6, .ref a5, .int mrs, .ref a6, .long mlt, .long mlb, .long mht, .long mhb])), (a5, .inl (cI, 64, .inl mte_6)), (a6, .inl (cI, 64, .inl mru))] _ := hP.sub [0, 1, 2] rfl
          have hD9 : va_D A [(h, .inr (4, [.int 0, .int mtp, .int mbt, .int mmn_6, .ref a5, .int mrs, .ref a6, .long mlt, .long mlb, .long mht, .long mhb])), (a5, .inl (cI, 64, .inl mte_6)), (a6, .inl (cI, 64, .inl mru))] := hD.sub [0, 1, 2] (by decide) rfl
          rw [hQf]
          exact W.iret hx hb hr (fun t ht hW => ⟨⟨_, (), rfl, rfl, by rw [ht]; exact hP9, hD9⟩, hS.F ht⟩) hS.2.2 dX4_convergent_31
def fX4_steps (p0 : Int64) (p2 : Int64) : Option (Int64) :=
  ckL p2 <|
  some ((p0 - 1) / p2)
set_option maxHeartbeats 4000000 in
set_option maxRecDepth 100000 in
theorem zX4_steps (l : Launch) (G : va_G) (cI : ClassId) (sz : Nat) (p0 : Int64) (p2 : Int64) {rv : Int64} (hf : fX4_steps p0 p2 = some rv) : mRl l yX4_steps wsX4_steps ({ frames := 0, cells := 0, slots := 0, locals := 0 }) [.long p0, .long p2] G cI [] sz rv := by
  refine Met.ofW (cc := cX4_steps) (maxL := 4) (ret := (some .long)) (by decide) rfl ?_
  intro p e s m args below meth c s₁ B hml hv
  obtain ⟨rfl, hsz, hP, hK⟩ := hv
  have hx := B.exec
  have hb := B.bytes
  have hr := B.returns
  have hts := atoms_spec (ws := wsX4_steps) B.pre
  have hown : s.vm.findClass RX4 = some m.cls := findClass_of_methodNamed B.named
  have hlocks := B.notSynchronized
  subst hsz
  generalize hAe : va_A [] s.heap.size = A
  have hA : ∀ q : Nat, s.heap.size ≤ q → A q := fun q h => by rw [← hAe]; exact Or.inr h
  have hS : va_S A s.heap s.heap [] := va_S.rf
  obtain ⟨Qf, hQf⟩ : ∃ f : Int64 → State → Prop, f = fun z => MQ below (va_Ql (fun (r : Int64) (_ : Unit) => r = z) (fun _ _ => True) A) ([.long p0, .long p2].toArray) s 0 0 A := ⟨_, rfl⟩
  suffices hgo : W p l e (headSpec wsX4_steps ({ frames := 0, cells := 0, slots := 0, locals := 0 })).room s m ([.long p0, .long p2].toArray) below meth c s.heap [] 0 0 (Qf rv) (entryFrame m ([.long p0, .long p2].toArray) 4) by rw [hQf] at hgo; exact hgo
  have hl := lv_entry ([.long p0, .long p2]) (n := 4) (Nat.le_of_ble_eq_true rfl)
  rw [lg_entry_eq]
  generalize (lg_sl ([.long p0, .long p2]) ++ List.replicate (4 - (lg_sl ([.long p0, .long p2])).length) Slot.unset).toArray = ls at hl ⊢
  have hl : lv_has ls 4 [(0, .long p0), (2, .long p2)] := hl
  unfold fX4_steps at hf
  refine lv_lload_n hx hb dX4_steps_0 rfl (lv_at hl 0 rfl) ?_
  refine lv_lconst (v := 1) hx hb dX4_steps_1 (by decide) ?_
  refine lv_lsub hx hb dX4_steps_2 ?_
  refine lv_lload_n hx hb dX4_steps_3 rfl (lv_at hl 1 rfl) ?_
  obtain ⟨hz4, hf⟩ := ckL_s hf
  refine lv_ldiv hx hb dX4_steps_4 hz4 ?_
  refine qf_s (Qf := Qf) hf ?_
  rw [hQf]
  exact W.lret hx hb hr (fun t ht hW => ⟨⟨_, (), rfl, rfl, trivial⟩, hS.F ht⟩) hS.2.2 dX4_steps_5
def fX4_walk_J314 (k38 : Int32 → (Nat → Int32) → Int64 → Int64 → Int64 → Int64 → Int32 → Option (Int32 × (Nat → Int32) × Int64 × Int64 × Int64 × Int64)) (mtp : Int32) (mbt : Int32) (mrs : Int32) (mru : Nat → Int32) (mlt : Int64) (mlb : Int64) (mht : Int64) (mhb : Int64) (x1 : Int32) : Option (Int32 × (Nat → Int32) × Int64 × Int64 × Int64 × Int64) :=
  k38 mrs mru mlt mlb mht mhb x1
def fX4_walk_J93 (k38 : Int32 → (Nat → Int32) → Int64 → Int64 → Int64 → Int64 → Int32 → Option (Int32 × (Nat → Int32) × Int64 × Int64 × Int64 × Int64)) (mtp : Int32) (mbt : Int32) (mrs : Int32) (mru : Nat → Int32) (mlt : Int64) (mlb : Int64) (mht : Int64) (mhb : Int64) (x6 : Int64) (y0 : Int32) : Option (Int32 × (Nat → Int32) × Int64 × Int64 × Int64 × Int64) :=
  if (lg_cmp x6 0) ≤ 0 then
    if 0 ≤ (lg_cmp x6 0) then
      fX4_walk_J314 k38 mtp mbt mrs mru mlt mlb mht mhb y0
    else
      bd1 (fX4_steps ((mht * (Int32.toInt64 mbt)) - ((Int32.toInt64 mtp) * mhb)) (((Int32.toInt64 mtp) * mlb) - (mlt * (Int32.toInt64 mbt)))) fun r254 =>
      nm (mht + (r254 * mlt)) fun v272 =>
      nm (mhb + (r254 * mlb)) fun v288 =>
      nm (Int64.toInt32 (-r254)) fun v303 =>
      ckI mrs 64 <|
      nm (upd mru (Int32.toNatClampNeg mrs) v303) fun mru303 =>
      nm (mrs + 1) fun v311 =>
      fX4_walk_J314 k38 mtp mbt v311 mru303 mlt mlb v272 v288 y0
  else
    bd1 (fX4_steps (((Int32.toInt64 mtp) * mlb) - (mlt * (Int32.toInt64 mbt))) ((mht * (Int32.toInt64 mbt)) - ((Int32.toInt64 mtp) * mhb))) fun r143 =>
    nm (mlt + (r143 * mht)) fun v161 =>
    nm (mlb + (r143 * mhb)) fun v177 =>
    nm (Int64.toInt32 r143) fun v191 =>
    ckI mrs 64 <|
    nm (upd mru (Int32.toNatClampNeg mrs) v191) fun mru191 =>
    nm (mrs + 1) fun v199 =>
    fX4_walk_J314 k38 mtp mbt v199 mru191 v161 v177 mht mhb y0
def fX4_walk_B38 (k38 : Int32 → (Nat → Int32) → Int64 → Int64 → Int64 → Int64 → Int32 → Option (Int32 × (Nat → Int32) × Int64 × Int64 × Int64 × Int64)) (mtp : Int32) (mbt : Int32) (mrs : Int32) (mru : Nat → Int32) (mlt : Int64) (mlb : Int64) (mht : Int64) (mhb : Int64) (x1 : Int32) : Option (Int32 × (Nat → Int32) × Int64 × Int64 × Int64 × Int64) :=
  if x1 = 0 then
    some (mrs, mru, mlt, mlb, mht, mhb)
  else
    nm (mlt + mht) fun v51 =>
    nm (mlb + mhb) fun v61 =>
    nm (((Int32.toInt64 mtp) * v61) - (v51 * (Int32.toInt64 mbt))) fun v79 =>
    if (lg_cmp v79 0) = 0 then
      fX4_walk_J93 k38 mtp mbt mrs mru mlt mlb mht mhb v79 0
    else
      fX4_walk_J93 k38 mtp mbt mrs mru mlt mlb mht mhb v79 1
def fX4_walk_L38 (mtp : Int32) (mbt : Int32) : Nat → Int32 → (Nat → Int32) → Int64 → Int64 → Int64 → Int64 → Int32 → Option (Int32 × (Nat → Int32) × Int64 × Int64 × Int64 × Int64)
  | 0, _, _, _, _, _, _, _ => none
  | n + 1, mrs, mru, mlt, mlb, mht, mhb, x1 => fX4_walk_B38 (fX4_walk_L38  mtp mbt n) mtp mbt mrs mru mlt mlb mht mhb x1
def fX4_walk_J37 (mtp : Int32) (mbt : Int32) (mrs : Int32) (mru : Nat → Int32) (mlt : Int64) (mlb : Int64) (mht : Int64) (mhb : Int64) (y0 : Int32) : Option (Int32 × (Nat → Int32) × Int64 × Int64 × Int64 × Int64) :=
  fX4_walk_L38  mtp mbt FU mrs mru mlt mlb mht mhb y0
def fX4_walk (mtp : Int32) (mbt : Int32) (mrs : Int32) (mru : Nat → Int32) (mlt : Int64) (mlb : Int64) (mht : Int64) (mhb : Int64) : Option (Int32 × (Nat → Int32) × Int64 × Int64 × Int64 × Int64) :=
  if mtp ≤ 0 then
    fX4_walk_J37  mtp mbt 0 mru 0 1 1 0 0
  else
    fX4_walk_J37  mtp mbt 0 mru 0 1 1 0 1
set_option maxHeartbeats 4000000 in
set_option maxRecDepth 100000 in
theorem zX4_walk (l : Launch) (G : va_G) (cI : ClassId) (sz : Nat) (h a5 a6 : Nat) (mth : Int32) (mtp : Int32) (mbt : Int32) (mmn : Int32) (mte : Nat → Int32) (mrs : Int32) (mru : Nat → Int32) (mlt : Int64) (mlb : Int64) (mht : Int64) (mhb : Int64) {o_mrs : Int32} {o_mru : Nat → Int32} {o_mlt : Int64} {o_mlb : Int64} {o_mht : Int64} {o_mhb : Int64} (hf : fX4_walk mtp mbt mrs mru mlt mlb mht mhb = some (o_mrs, o_mru, o_mlt, o_mlb, o_mht, o_mhb)) : mMv l yX4_walk wsX4_walk ({ frames := 1, cells := 0, slots := 0, locals := 23 }) [.ref h] G cI [(h, .inr (4, [.int mth, .int mtp, .int mbt, .int mmn, .ref a5, .int mrs, .ref a6, .long mlt, .long mlb, .long mht, .long mhb])), (a5, .inl (cI, 64, .inl mte)), (a6, .inl (cI, 64, .inl mru))] sz [(h, .inr (4, [.int mth, .int mtp, .int mbt, .int mmn, .ref a5, .int o_mrs, .ref a6, .long o_mlt, .long o_mlb, .long o_mht, .long o_mhb])), (a5, .inl (cI, 64, .inl mte)), (a6, .inl (cI, 64, .inl o_mru))] 0 0 := by
  refine Met.ofW (cc := cX4_walk) (maxL := 10) (ret := none) (by decide) rfl ?_
  intro p e s m args below meth c s₁ B hml hv
  obtain ⟨rfl, hsz, hP, hK, hD0⟩ := hv
  have hx := B.exec
  have hb := B.bytes
  have hr := B.returns
  have hts := atoms_spec (ws := wsX4_walk) B.pre
  have hown : s.vm.findClass RX4 = some m.cls := findClass_of_methodNamed B.named
  have hlocks := B.notSynchronized
  subst hsz
  have hD := hD0.self (sz := s.heap.size)
  generalize hAe : va_A [(h, .inr (4, [.int mth, .int mtp, .int mbt, .int mmn, .ref a5, .int mrs, .ref a6, .long mlt, .long mlb, .long mht, .long mhb])), (a5, .inl (cI, 64, .inl mte)), (a6, .inl (cI, 64, .inl mru))] s.heap.size = A at hD ⊢
  have hA : ∀ q : Nat, s.heap.size ≤ q → A q := fun q h => by rw [← hAe]; exact Or.inr h
  have hS : va_S A s.heap s.heap [] := va_S.rf
  have w0 := hts (.fieldLink RX4 46 "SternDeskModel" "runs" "I") (by decide +kernel)
  have hinX4 : ∀ w ∈ u_ws RX4 TX4 11, w ∈ wsX4_walk := by decide +kernel
  have w2 := hts (.fieldLink RX4 49 "SternDeskModel" "lowTop" "J") (by decide +kernel)
  have w3 := hts (.fieldLink RX4 53 "SternDeskModel" "lowBottom" "J") (by decide +kernel)
  have w4 := hts (.fieldLink RX4 56 "SternDeskModel" "highTop" "J") (by decide +kernel)
  have w5 := hts (.fieldLink RX4 59 "SternDeskModel" "highBottom" "J") (by decide +kernel)
  have w6 := hts (.fieldLink RX4 7 "SternDeskModel" "top" "I") (by decide +kernel)
  have w7 := hts (.fieldLink RX4 13 "SternDeskModel" "bottom" "I") (by decide +kernel)
  have w8 := hts (.fieldLink RX4 20 "SternDeskModel" "run" "[I") (by decide +kernel)
  obtain ⟨Qf, hQf⟩ : ∃ f : (Int32 × (Nat → Int32) × Int64 × Int64 × Int64 × Int64) → State → Prop, f = fun z => MQ below (va_Qv (fun (_ : Unit) => True) (fun _ t => va_P G vwCl [(h, .inr (4, [.int mth, .int mtp, .int mbt, .int mmn, .ref a5, .int z.1, .ref a6, .long z.2.2.1, .long z.2.2.2.1, .long z.2.2.2.2.1, .long z.2.2.2.2.2])), (a5, .inl (cI, 64, .inl mte)), (a6, .inl (cI, 64, .inl z.2.1))] t.heap ∧ va_D A [(h, .inr (4, [.int mth, .int mtp, .int mbt, .int mmn, .ref a5, .int z.1, .ref a6, .long z.2.2.1, .long z.2.2.2.1, .long z.2.2.2.2.1, .long z.2.2.2.2.2])), (a5, .inl (cI, 64, .inl mte)), (a6, .inl (cI, 64, .inl z.2.1))]) A) ([.ref h].toArray) s 0 0 A := ⟨_, rfl⟩
  suffices hgo : W p l e (headSpec wsX4_walk ({ frames := 1, cells := 0, slots := 0, locals := 23 })).room s m ([.ref h].toArray) below meth c s.heap [] 0 0 (Qf (o_mrs, o_mru, o_mlt, o_mlb, o_mht, o_mhb)) (entryFrame m ([.ref h].toArray) 10) by rw [hQf] at hgo; exact hgo
  have J314 : ∀ (k38 : Int32 → (Nat → Int32) → Int64 → Int64 → Int64 → Int64 → Int32 → Option (Int32 × (Nat → Int32) × Int64 × Int64 × Int64 × Int64)) (hk38 : ∀ (mrs : Int32) (mru : Nat → Int32) (mlt : Int64) (mlb : Int64) (mht : Int64) (mhb : Int64) (x1 : Int32) (H : Heap) (locs : List Loc) (ls : Array Slot), k38 mrs mru mlt mlb mht mhb x1 = some (o_mrs, o_mru, o_mlt, o_mlb, o_mht, o_mhb) → va_P G vwCl [(h, .inr (4, [.int mth, .int mtp, .int mbt, .int mmn, .ref a5, .int mrs, .ref a6, .long mlt, .long mlb, .long mht, .long mhb])), (a5, .inl (cI, 64, .inl mte)), (a6, .inl (cI, 64, .inl mru))] H → va_D A [(h, .inr (4, [.int mth, .int mtp, .int mbt, .int mmn, .ref a5, .int mrs, .ref a6, .long mlt, .long mlb, .long mht, .long mhb])), (a5, .inl (cI, 64, .inl mte)), (a6, .inl (cI, 64, .inl mru))] → va_S A s.heap H locs → lv_has ls 10 [(0, .ref h), (1, .int x1)] → W p l e (headSpec wsX4_walk ({ frames := 1, cells := 0, slots := 0, locals := 23 })).room s m ([.ref h].toArray) below meth c H locs 0 0 (Qf (o_mrs, o_mru, o_mlt, o_mlb, o_mht, o_mhb)) (F0 m 38 ls [])) (mrs : Int32) (mru : Nat → Int32) (mlt : Int64) (mlb : Int64) (mht : Int64) (mhb : Int64) (x1 : Int32) (H : Heap) (locs : List Loc) (ls : Array Slot), fX4_walk_J314 k38 mtp mbt mrs mru mlt mlb mht mhb x1 = some (o_mrs, o_mru, o_mlt, o_mlb, o_mht, o_mhb) → va_P G vwCl [(h, .inr (4, [.int mth, .int mtp, .int mbt, .int mmn, .ref a5, .int mrs, .ref a6, .long mlt, .long mlb, .long mht, .long mhb])), (a5, .inl (cI, 64, .inl mte)), (a6, .inl (cI, 64, .inl mru))] H → va_D A [(h, .inr (4, [.int mth, .int mtp, .int mbt, .int mmn, .ref a5, .int mrs, .ref a6, .long mlt, .long mlb, .long mht, .long mhb])), (a5, .inl (cI, 64, .inl mte)), (a6, .inl (cI, 64, .inl mru))] → va_S A s.heap H locs → lv_has ls 10 [(0, .ref h), (1, .int x1)] → W p l e (headSpec wsX4_walk ({ frames := 1, cells := 0, slots := 0, locals := 23 })).room s m ([.ref h].toArray) below meth c H locs 0 0 (Qf (o_mrs, o_mru, o_mlt, o_mlb, o_mht, o_mhb)) (F0 m 314 ls []) := by
    intro k38 hk38  mrs mru mlt mlb mht mhb x1 H locs ls hf hP hD hS hl
    unfold fX4_walk_J314 at hf
    refine lv_goto (tgt := 38) hx hb dX4_walk_314 (by decide) ?_
    exact hk38  mrs mru mlt mlb mht mhb x1 _ _ _ hf hP hD hS (lv_sub hl [0, 1] rfl)
  have J93 : ∀ (k38 : Int32 → (Nat → Int32) → Int64 → Int64 → Int64 → Int64 → Int32 → Option (Int32 × (Nat → Int32) × Int64 × Int64 × Int64 × Int64)) (hk38 : ∀ (mrs : Int32) (mru : Nat → Int32) (mlt : Int64) (mlb : Int64) (mht : Int64) (mhb : Int64) (x1 : Int32) (H : Heap) (locs : List Loc) (ls : Array Slot), k38 mrs mru mlt mlb mht mhb x1 = some (o_mrs, o_mru, o_mlt, o_mlb, o_mht, o_mhb) → va_P G vwCl [(h, .inr (4, [.int mth, .int mtp, .int mbt, .int mmn, .ref a5, .int mrs, .ref a6, .long mlt, .long mlb, .long mht, .long mhb])), (a5, .inl (cI, 64, .inl mte)), (a6, .inl (cI, 64, .inl mru))] H → va_D A [(h, .inr (4, [.int mth, .int mtp, .int mbt, .int mmn, .ref a5, .int mrs, .ref a6, .long mlt, .long mlb, .long mht, .long mhb])), (a5, .inl (cI, 64, .inl mte)), (a6, .inl (cI, 64, .inl mru))] → va_S A s.heap H locs → lv_has ls 10 [(0, .ref h), (1, .int x1)] → W p l e (headSpec wsX4_walk ({ frames := 1, cells := 0, slots := 0, locals := 23 })).room s m ([.ref h].toArray) below meth c H locs 0 0 (Qf (o_mrs, o_mru, o_mlt, o_mlb, o_mht, o_mhb)) (F0 m 38 ls [])) (mrs : Int32) (mru : Nat → Int32) (mlt : Int64) (mlb : Int64) (mht : Int64) (mhb : Int64) (x6 : Int64) (y0 : Int32) (H : Heap) (locs : List Loc) (ls : Array Slot), fX4_walk_J93 k38 mtp mbt mrs mru mlt mlb mht mhb x6 y0 = some (o_mrs, o_mru, o_mlt, o_mlb, o_mht, o_mhb) → va_P G vwCl [(h, .inr (4, [.int mth, .int mtp, .int mbt, .int mmn, .ref a5, .int mrs, .ref a6, .long mlt, .long mlb, .long mht, .long mhb])), (a5, .inl (cI, 64, .inl mte)), (a6, .inl (cI, 64, .inl mru))] H → va_D A [(h, .inr (4, [.int mth, .int mtp, .int mbt, .int mmn, .ref a5, .int mrs, .ref a6, .long mlt, .long mlb, .long mht, .long mhb])), (a5, .inl (cI, 64, .inl mte)), (a6, .inl (cI, 64, .inl mru))] → va_S A s.heap H locs → lv_has ls 10 [(0, .ref h), (6, .long x6)] → W p l e (headSpec wsX4_walk ({ frames := 1, cells := 0, slots := 0, locals := 23 })).room s m ([.ref h].toArray) below meth c H locs 0 0 (Qf (o_mrs, o_mru, o_mlt, o_mlb, o_mht, o_mhb)) (F0 m 93 ls [.int y0]) := by
    intro k38 hk38  mrs mru mlt mlb mht mhb x6 y0 H locs ls hf hP hD hS hl
    unfold fX4_walk_J93 at hf
    refine lv_istore_n (lv' := [(1, .int y0), (0, .ref h), (6, .long x6)]) hx hb dX4_walk_93 rfl hl (by decide) rfl (fun ls hl => ?_)
    refine lv_lload hx hb dX4_walk_94 (lv_at hl 2 rfl) ?_
    refine lv_lconst (v := 0) hx hb dX4_walk_96 (by decide) ?_
    refine W.lcmp hx hb dX4_walk_97 ?_
    refine lv_if_le (tgt := 205) hx hb dX4_walk_98 (by decide) (fun c98 => ?_) (fun c98 => ?_)
    · have hf := it_t c98 hf
      refine lv_lload hx hb dX4_walk_205 (lv_at hl 2 rfl) ?_
      refine lv_lconst (v := 0) hx hb dX4_walk_207 (by decide) ?_
      refine W.lcmp hx hb dX4_walk_208 ?_
      refine lv_if_ge (tgt := 314) hx hb dX4_walk_209 (by decide) (fun c209 => ?_) (fun c209 => ?_)
      · have hf := it_t c209 hf
        exact J314 k38 hk38  mrs mru mlt mlb mht mhb y0 _ _ _ hf hP hD hS (lv_sub hl [1, 0] rfl)
      · have hf := it_f c209 hf
        refine lv_aload_n hx hb dX4_walk_212 rfl (lv_at hl 1 rfl) ?_
        refine va_get (D := G) (ci := 4) (v := .long mht) (C := RX4) (T := TX4) (N := 11) hx hb hts hinX4 hown hK.1 hP 0 rfl rfl 9 (by decide) w4 (fun _ h9 => h9) rfl dX4_walk_213 ?_
        refine lv_aload_n hx hb dX4_walk_216 rfl (lv_at hl 1 rfl) ?_
        refine va_get (D := G) (ci := 4) (v := .int mbt) (C := RX4) (T := TX4) (N := 11) hx hb hts hinX4 hown hK.1 hP 0 rfl rfl 2 (by decide) w7 (fun _ h9 => h9) rfl dX4_walk_217 ?_
        refine lv_i2l hx hb dX4_walk_220 rfl ?_
        refine lv_lmul hx hb dX4_walk_221 ?_
        refine lv_aload_n hx hb dX4_walk_222 rfl (lv_at hl 1 rfl) ?_
        refine va_get (D := G) (ci := 4) (v := .int mtp) (C := RX4) (T := TX4) (N := 11) hx hb hts hinX4 hown hK.1 hP 0 rfl rfl 1 (by decide) w6 (fun _ h9 => h9) rfl dX4_walk_223 ?_
        refine lv_i2l hx hb dX4_walk_226 rfl ?_
        refine lv_aload_n hx hb dX4_walk_227 rfl (lv_at hl 1 rfl) ?_
        refine va_get (D := G) (ci := 4) (v := .long mhb) (C := RX4) (T := TX4) (N := 11) hx hb hts hinX4 hown hK.1 hP 0 rfl rfl 10 (by decide) w5 (fun _ h9 => h9) rfl dX4_walk_228 ?_
        refine lv_lmul hx hb dX4_walk_231 ?_
        refine lv_lsub hx hb dX4_walk_232 ?_
        refine lv_aload_n hx hb dX4_walk_233 rfl (lv_at hl 1 rfl) ?_
        refine va_get (D := G) (ci := 4) (v := .int mtp) (C := RX4) (T := TX4) (N := 11) hx hb hts hinX4 hown hK.1 hP 0 rfl rfl 1 (by decide) w6 (fun _ h9 => h9) rfl dX4_walk_234 ?_
        refine lv_i2l hx hb dX4_walk_237 rfl ?_
        refine lv_aload_n hx hb dX4_walk_238 rfl (lv_at hl 1 rfl) ?_
        refine va_get (D := G) (ci := 4) (v := .long mlb) (C := RX4) (T := TX4) (N := 11) hx hb hts hinX4 hown hK.1 hP 0 rfl rfl 8 (by decide) w3 (fun _ h9 => h9) rfl dX4_walk_239 ?_
        refine lv_lmul hx hb dX4_walk_242 ?_
        refine lv_aload_n hx hb dX4_walk_243 rfl (lv_at hl 1 rfl) ?_
        refine va_get (D := G) (ci := 4) (v := .long mlt) (C := RX4) (T := TX4) (N := 11) hx hb hts hinX4 hown hK.1 hP 0 rfl rfl 7 (by decide) w2 (fun _ h9 => h9) rfl dX4_walk_244 ?_
        refine lv_aload_n hx hb dX4_walk_247 rfl (lv_at hl 1 rfl) ?_
        refine va_get (D := G) (ci := 4) (v := .int mbt) (C := RX4) (T := TX4) (N := 11) hx hb hts hinX4 hown hK.1 hP 0 rfl rfl 2 (by decide) w7 (fun _ h9 => h9) rfl dX4_walk_248 ?_
        refine lv_i2l hx hb dX4_walk_251 rfl ?_
        refine lv_lmul hx hb dX4_walk_252 ?_
        refine lv_lsub hx hb dX4_walk_253 ?_
        obtain ⟨r254, hv254, hf⟩ := bd1_s hf
        refine roSl (As := [.long ((mht * (Int32.toInt64 mbt)) - ((Int32.toInt64 mtp) * mhb)), .long (((Int32.toInt64 mtp) * mlb) - (mlt * (Int32.toInt64 mbt)))]) (rest := []) ⟨hx, hb, hml, hown, hts⟩ (zX4_steps l G cI _ ((mht * (Int32.toInt64 mbt)) - ((Int32.toInt64 mtp) * mhb)) (((Int32.toInt64 mtp) * mlb) - (mlt * (Int32.toInt64 mbt))) hv254) (va_cwS 2 hts gX4_walk_X4_steps rfl rfl rfl (by decide +kernel) ⟨Nat.le_of_ble_eq_true rfl, Nat.le_of_ble_eq_true rfl⟩) hK hP rfl hl.1 rfl (Nat.le_of_ble_eq_true rfl) dX4_walk_254 ⟨Nat.le_of_ble_eq_true rfl, Nat.le_of_ble_eq_true rfl⟩ hS hA (fun H locs hP hz254 hS => ?_)
        refine lv_lstore (lv' := [(8, .long r254), (1, .int y0), (0, .ref h), (6, .long x6)]) hx hb dX4_walk_257 hl (by decide) rfl (fun ls hl => ?_)
        refine lv_aload_n hx hb dX4_walk_259 rfl (lv_at hl 2 rfl) ?_
        refine lv_aload_n hx hb dX4_walk_260 rfl (lv_at hl 2 rfl) ?_
        refine va_get (D := G) (ci := 4) (v := .long mht) (C := RX4) (T := TX4) (N := 11) hx hb hts hinX4 hown hK.1 hP 0 rfl rfl 9 (by decide) w4 (fun _ h9 => h9) rfl dX4_walk_261 ?_
        refine lv_lload hx hb dX4_walk_264 (lv_at hl 0 rfl) ?_
        refine lv_aload_n hx hb dX4_walk_266 rfl (lv_at hl 2 rfl) ?_
        refine va_get (D := G) (ci := 4) (v := .long mlt) (C := RX4) (T := TX4) (N := 11) hx hb hts hinX4 hown hK.1 hP 0 rfl rfl 7 (by decide) w2 (fun _ h9 => h9) rfl dX4_walk_267 ?_
        refine lv_lmul hx hb dX4_walk_270 ?_
        refine lv_ladd hx hb dX4_walk_271 ?_
        refine lv_topl (fun v272 ev272 => ?_)
        have hf := nm_s ev272 hf
        refine va_put (D := G) (ci := 4) (v := .long v272) (ty := .long) (C := RX4) (T := TX4) (N := 11) hx hb hts hinX4 tyX4 tyX4_ok nmX4 hown hK.1 hP hD hS 0 rfl rfl 9 (by decide) w4 (fun _ h9 => h9) rfl (by decide +kernel) rfl rfl (Nat.le_of_ble_eq_true rfl) dX4_walk_272 (fun H locs hP hD hS => ?_)
        have hP : va_P G vwCl [(h, .inr (4, [.int mth, .int mtp, .int mbt, .int mmn, .ref a5, .int mrs, .ref a6, .long mlt, .long mlb, .long v272, .long mhb])), (a5, .inl (cI, 64, .inl mte)), (a6, .inl (cI, 64, .inl mru))] H := hP
        have hD : va_D A [(h, .inr (4, [.int mth, .int mtp, .int mbt, .int mmn, .ref a5, .int mrs, .ref a6, .long mlt, .long mlb, .long v272, .long mhb])), (a5, .inl (cI, 64, .inl mte)), (a6, .inl (cI, 64, .inl mru))] := hD
        refine lv_aload_n hx hb dX4_walk_275 rfl (lv_at hl 2 rfl) ?_
        refine lv_aload_n hx hb dX4_walk_276 rfl (lv_at hl 2 rfl) ?_
        refine va_get (D := G) (ci := 4) (v := .long mhb) (C := RX4) (T := TX4) (N := 11) hx hb hts hinX4 hown hK.1 hP 0 rfl rfl 10 (by decide) w5 (fun _ h9 => h9) rfl dX4_walk_277 ?_
        refine lv_lload hx hb dX4_walk_280 (lv_at hl 0 rfl) ?_
        refine lv_aload_n hx hb dX4_walk_282 rfl (lv_at hl 2 rfl) ?_
        refine va_get (D := G) (ci := 4) (v := .long mlb) (C := RX4) (T := TX4) (N := 11) hx hb hts hinX4 hown hK.1 hP 0 rfl rfl 8 (by decide) w3 (fun _ h9 => h9) rfl dX4_walk_283 ?_
        refine lv_lmul hx hb dX4_walk_286 ?_
        refine lv_ladd hx hb dX4_walk_287 ?_
        refine lv_topl (fun v288 ev288 => ?_)
        have hf := nm_s ev288 hf
        refine va_put (D := G) (ci := 4) (v := .long v288) (ty := .long) (C := RX4) (T := TX4) (N := 11) hx hb hts hinX4 tyX4 tyX4_ok nmX4 hown hK.1 hP hD hS 0 rfl rfl 10 (by decide) w5 (fun _ h9 => h9) rfl (by decide +kernel) rfl rfl (Nat.le_of_ble_eq_true rfl) dX4_walk_288 (fun H locs hP hD hS => ?_)
        have hP : va_P G vwCl [(h, .inr (4, [.int mth, .int mtp, .int mbt, .int mmn, .ref a5, .int mrs, .ref a6, .long mlt, .long mlb, .long v272, .long v288])), (a5, .inl (cI, 64, .inl mte)), (a6, .inl (cI, 64, .inl mru))] H := hP
        have hD : va_D A [(h, .inr (4, [.int mth, .int mtp, .int mbt, .int mmn, .ref a5, .int mrs, .ref a6, .long mlt, .long mlb, .long v272, .long v288])), (a5, .inl (cI, 64, .inl mte)), (a6, .inl (cI, 64, .inl mru))] := hD
        refine lv_aload_n hx hb dX4_walk_291 rfl (lv_at hl 2 rfl) ?_
        refine va_get (D := G) (ci := 4) (v := .ref a6) (C := RX4) (T := TX4) (N := 11) hx hb hts hinX4 hown hK.1 hP 0 rfl rfl 6 (by decide) w8 (fun _ h9 => h9) rfl dX4_walk_292 ?_
        refine lv_aload_n hx hb dX4_walk_295 rfl (lv_at hl 2 rfl) ?_
        refine va_get (D := G) (ci := 4) (v := .int mrs) (C := RX4) (T := TX4) (N := 11) hx hb hts hinX4 hown hK.1 hP 0 rfl rfl 5 (by decide) w0 (fun _ h9 => h9) rfl dX4_walk_296 ?_
        refine lv_lload hx hb dX4_walk_299 (lv_at hl 0 rfl) ?_
        refine lv_lneg hx hb dX4_walk_301 ?_
        refine lv_l2i hx hb dX4_walk_302 rfl ?_
        refine lv_topi (fun v303 ev303 => ?_)
        have hf := nm_s ev303 hf
        obtain ⟨hi303, hf⟩ := ckI_s hf
        refine va_iast hx hb hK.1 hP hD hS 2 0 rfl rfl hi303 dX4_walk_303 (fun H locs hP hD hS => ?_)
        obtain ⟨mru303, emru303⟩ : ∃ z : Nat → Int32, z = upd mru (Int32.toNatClampNeg mrs) v303 := ⟨_, rfl⟩
        have hf := nm_s emru303 hf
        rw [← emru303] at hP hD
        have hP : va_P G vwCl [(h, .inr (4, [.int mth, .int mtp, .int mbt, .int mmn, .ref a5, .int mrs, .ref a6, .long mlt, .long mlb, .long v272, .long v288])), (a5, .inl (cI, 64, .inl mte)), (a6, .inl (cI, 64, .inl mru303))] H := hP
        have hD : va_D A [(h, .inr (4, [.int mth, .int mtp, .int mbt, .int mmn, .ref a5, .int mrs, .ref a6, .long mlt, .long mlb, .long v272, .long v288])), (a5, .inl (cI, 64, .inl mte)), (a6, .inl (cI, 64, .inl mru303))] := hD
        refine lv_aload_n hx hb dX4_walk_304 rfl (lv_at hl 2 rfl) ?_
        refine lv_dup hx hb dX4_walk_305 rfl ?_
        refine va_get (D := G) (ci := 4) (v := .int mrs) (C := RX4) (T := TX4) (N := 11) hx hb hts hinX4 hown hK.1 hP 0 rfl rfl 5 (by decide) w0 (fun _ h9 => h9) rfl dX4_walk_306 ?_
        refine lv_iconst (v := 1) hx hb dX4_walk_309 (by decide) ?_
        refine lv_iadd hx hb dX4_walk_310 ?_
        refine lv_topi (fun v311 ev311 => ?_)
        have hf := nm_s ev311 hf
        refine va_put (D := G) (ci := 4) (v := .int v311) (ty := .int) (C := RX4) (T := TX4) (N := 11) hx hb hts hinX4 tyX4 tyX4_ok nmX4 hown hK.1 hP hD hS 0 rfl rfl 5 (by decide) w0 (fun _ h9 => h9) rfl (by decide +kernel) rfl rfl (Nat.le_of_ble_eq_true rfl) dX4_walk_311 (fun H locs hP hD hS => ?_)
        have hP : va_P G vwCl [(h, .inr (4, [.int mth, .int mtp, .int mbt, .int mmn, .ref a5, .int v311, .ref a6, .long mlt, .long mlb, .long v272, .long v288])), (a5, .inl (cI, 64, .inl mte)), (a6, .inl (cI, 64, .inl mru303))] H := hP
        have hD : va_D A [(h, .inr (4, [.int mth, .int mtp, .int mbt, .int mmn, .ref a5, .int v311, .ref a6, .long mlt, .long mlb, .long v272, .long v288])), (a5, .inl (cI, 64, .inl mte)), (a6, .inl (cI, 64, .inl mru303))] := hD
        exact J314 k38 hk38  v311 mru303 mlt mlb v272 v288 y0 _ _ _ hf hP hD hS (lv_sub hl [2, 1] rfl)
    · have hf := it_f c98 hf
      refine lv_aload_n hx hb dX4_walk_101 rfl (lv_at hl 1 rfl) ?_
      refine va_get (D := G) (ci := 4) (v := .int mtp) (C := RX4) (T := TX4) (N := 11) hx hb hts hinX4 hown hK.1 hP 0 rfl rfl 1 (by decide) w6 (fun _ h9 => h9) rfl dX4_walk_102 ?_
      refine lv_i2l hx hb dX4_walk_105 rfl ?_
      refine lv_aload_n hx hb dX4_walk_106 rfl (lv_at hl 1 rfl) ?_
      refine va_get (D := G) (ci := 4) (v := .long mlb) (C := RX4) (T := TX4) (N := 11) hx hb hts hinX4 hown hK.1 hP 0 rfl rfl 8 (by decide) w3 (fun _ h9 => h9) rfl dX4_walk_107 ?_
      refine lv_lmul hx hb dX4_walk_110 ?_
      refine lv_aload_n hx hb dX4_walk_111 rfl (lv_at hl 1 rfl) ?_
      refine va_get (D := G) (ci := 4) (v := .long mlt) (C := RX4) (T := TX4) (N := 11) hx hb hts hinX4 hown hK.1 hP 0 rfl rfl 7 (by decide) w2 (fun _ h9 => h9) rfl dX4_walk_112 ?_
      refine lv_aload_n hx hb dX4_walk_115 rfl (lv_at hl 1 rfl) ?_
      refine va_get (D := G) (ci := 4) (v := .int mbt) (C := RX4) (T := TX4) (N := 11) hx hb hts hinX4 hown hK.1 hP 0 rfl rfl 2 (by decide) w7 (fun _ h9 => h9) rfl dX4_walk_116 ?_
      refine lv_i2l hx hb dX4_walk_119 rfl ?_
      refine lv_lmul hx hb dX4_walk_120 ?_
      refine lv_lsub hx hb dX4_walk_121 ?_
      refine lv_aload_n hx hb dX4_walk_122 rfl (lv_at hl 1 rfl) ?_
      refine va_get (D := G) (ci := 4) (v := .long mht) (C := RX4) (T := TX4) (N := 11) hx hb hts hinX4 hown hK.1 hP 0 rfl rfl 9 (by decide) w4 (fun _ h9 => h9) rfl dX4_walk_123 ?_
      refine lv_aload_n hx hb dX4_walk_126 rfl (lv_at hl 1 rfl) ?_
      refine va_get (D := G) (ci := 4) (v := .int mbt) (C := RX4) (T := TX4) (N := 11) hx hb hts hinX4 hown hK.1 hP 0 rfl rfl 2 (by decide) w7 (fun _ h9 => h9) rfl dX4_walk_127 ?_
      refine lv_i2l hx hb dX4_walk_130 rfl ?_
      refine lv_lmul hx hb dX4_walk_131 ?_
      refine lv_aload_n hx hb dX4_walk_132 rfl (lv_at hl 1 rfl) ?_
      refine va_get (D := G) (ci := 4) (v := .int mtp) (C := RX4) (T := TX4) (N := 11) hx hb hts hinX4 hown hK.1 hP 0 rfl rfl 1 (by decide) w6 (fun _ h9 => h9) rfl dX4_walk_133 ?_
      refine lv_i2l hx hb dX4_walk_136 rfl ?_
      refine lv_aload_n hx hb dX4_walk_137 rfl (lv_at hl 1 rfl) ?_
      refine va_get (D := G) (ci := 4) (v := .long mhb) (C := RX4) (T := TX4) (N := 11) hx hb hts hinX4 hown hK.1 hP 0 rfl rfl 10 (by decide) w5 (fun _ h9 => h9) rfl dX4_walk_138 ?_
      refine lv_lmul hx hb dX4_walk_141 ?_
      refine lv_lsub hx hb dX4_walk_142 ?_
      obtain ⟨r143, hv143, hf⟩ := bd1_s hf
      refine roSl (As := [.long (((Int32.toInt64 mtp) * mlb) - (mlt * (Int32.toInt64 mbt))), .long ((mht * (Int32.toInt64 mbt)) - ((Int32.toInt64 mtp) * mhb))]) (rest := []) ⟨hx, hb, hml, hown, hts⟩ (zX4_steps l G cI _ (((Int32.toInt64 mtp) * mlb) - (mlt * (Int32.toInt64 mbt))) ((mht * (Int32.toInt64 mbt)) - ((Int32.toInt64 mtp) * mhb)) hv143) (va_cwS 2 hts gX4_walk_X4_steps rfl rfl rfl (by decide +kernel) ⟨Nat.le_of_ble_eq_true rfl, Nat.le_of_ble_eq_true rfl⟩) hK hP rfl hl.1 rfl (Nat.le_of_ble_eq_true rfl) dX4_walk_143 ⟨Nat.le_of_ble_eq_true rfl, Nat.le_of_ble_eq_true rfl⟩ hS hA (fun H locs hP hz143 hS => ?_)
      refine lv_lstore (lv' := [(8, .long r143), (1, .int y0), (0, .ref h), (6, .long x6)]) hx hb dX4_walk_146 hl (by decide) rfl (fun ls hl => ?_)
      refine lv_aload_n hx hb dX4_walk_148 rfl (lv_at hl 2 rfl) ?_
      refine lv_aload_n hx hb dX4_walk_149 rfl (lv_at hl 2 rfl) ?_
      refine va_get (D := G) (ci := 4) (v := .long mlt) (C := RX4) (T := TX4) (N := 11) hx hb hts hinX4 hown hK.1 hP 0 rfl rfl 7 (by decide) w2 (fun _ h9 => h9) rfl dX4_walk_150 ?_
      refine lv_lload hx hb dX4_walk_153 (lv_at hl 0 rfl) ?_
      refine lv_aload_n hx hb dX4_walk_155 rfl (lv_at hl 2 rfl) ?_
      refine va_get (D := G) (ci := 4) (v := .long mht) (C := RX4) (T := TX4) (N := 11) hx hb hts hinX4 hown hK.1 hP 0 rfl rfl 9 (by decide) w4 (fun _ h9 => h9) rfl dX4_walk_156 ?_
      refine lv_lmul hx hb dX4_walk_159 ?_
      refine lv_ladd hx hb dX4_walk_160 ?_
      refine lv_topl (fun v161 ev161 => ?_)
      have hf := nm_s ev161 hf
      refine va_put (D := G) (ci := 4) (v := .long v161) (ty := .long) (C := RX4) (T := TX4) (N := 11) hx hb hts hinX4 tyX4 tyX4_ok nmX4 hown hK.1 hP hD hS 0 rfl rfl 7 (by decide) w2 (fun _ h9 => h9) rfl (by decide +kernel) rfl rfl (Nat.le_of_ble_eq_true rfl) dX4_walk_161 (fun H locs hP hD hS => ?_)
      have hP : va_P G vwCl [(h, .inr (4, [.int mth, .int mtp, .int mbt, .int mmn, .ref a5, .int mrs, .ref a6, .long v161, .long mlb, .long mht, .long mhb])), (a5, .inl (cI, 64, .inl mte)), (a6, .inl (cI, 64, .inl mru))] H := hP
      have hD : va_D A [(h, .inr (4, [.int mth, .int mtp, .int mbt, .int mmn, .ref a5, .int mrs, .ref a6, .long v161, .long mlb, .long mht, .long mhb])), (a5, .inl (cI, 64, .inl mte)), (a6, .inl (cI, 64, .inl mru))] := hD
      refine lv_aload_n hx hb dX4_walk_164 rfl (lv_at hl 2 rfl) ?_
      refine lv_aload_n hx hb dX4_walk_165 rfl (lv_at hl 2 rfl) ?_
      refine va_get (D := G) (ci := 4) (v := .long mlb) (C := RX4) (T := TX4) (N := 11) hx hb hts hinX4 hown hK.1 hP 0 rfl rfl 8 (by decide) w3 (fun _ h9 => h9) rfl dX4_walk_166 ?_
      refine lv_lload hx hb dX4_walk_169 (lv_at hl 0 rfl) ?_
      refine lv_aload_n hx hb dX4_walk_171 rfl (lv_at hl 2 rfl) ?_
      refine va_get (D := G) (ci := 4) (v := .long mhb) (C := RX4) (T := TX4) (N := 11) hx hb hts hinX4 hown hK.1 hP 0 rfl rfl 10 (by decide) w5 (fun _ h9 => h9) rfl dX4_walk_172 ?_
      refine lv_lmul hx hb dX4_walk_175 ?_
      refine lv_ladd hx hb dX4_walk_176 ?_
      refine lv_topl (fun v177 ev177 => ?_)
      have hf := nm_s ev177 hf
      refine va_put (D := G) (ci := 4) (v := .long v177) (ty := .long) (C := RX4) (T := TX4) (N := 11) hx hb hts hinX4 tyX4 tyX4_ok nmX4 hown hK.1 hP hD hS 0 rfl rfl 8 (by decide) w3 (fun _ h9 => h9) rfl (by decide +kernel) rfl rfl (Nat.le_of_ble_eq_true rfl) dX4_walk_177 (fun H locs hP hD hS => ?_)
      have hP : va_P G vwCl [(h, .inr (4, [.int mth, .int mtp, .int mbt, .int mmn, .ref a5, .int mrs, .ref a6, .long v161, .long v177, .long mht, .long mhb])), (a5, .inl (cI, 64, .inl mte)), (a6, .inl (cI, 64, .inl mru))] H := hP
      have hD : va_D A [(h, .inr (4, [.int mth, .int mtp, .int mbt, .int mmn, .ref a5, .int mrs, .ref a6, .long v161, .long v177, .long mht, .long mhb])), (a5, .inl (cI, 64, .inl mte)), (a6, .inl (cI, 64, .inl mru))] := hD
      refine lv_aload_n hx hb dX4_walk_180 rfl (lv_at hl 2 rfl) ?_
      refine va_get (D := G) (ci := 4) (v := .ref a6) (C := RX4) (T := TX4) (N := 11) hx hb hts hinX4 hown hK.1 hP 0 rfl rfl 6 (by decide) w8 (fun _ h9 => h9) rfl dX4_walk_181 ?_
      refine lv_aload_n hx hb dX4_walk_184 rfl (lv_at hl 2 rfl) ?_
      refine va_get (D := G) (ci := 4) (v := .int mrs) (C := RX4) (T := TX4) (N := 11) hx hb hts hinX4 hown hK.1 hP 0 rfl rfl 5 (by decide) w0 (fun _ h9 => h9) rfl dX4_walk_185 ?_
      refine lv_lload hx hb dX4_walk_188 (lv_at hl 0 rfl) ?_
      refine lv_l2i hx hb dX4_walk_190 rfl ?_
      refine lv_topi (fun v191 ev191 => ?_)
      have hf := nm_s ev191 hf
      obtain ⟨hi191, hf⟩ := ckI_s hf
      refine va_iast hx hb hK.1 hP hD hS 2 0 rfl rfl hi191 dX4_walk_191 (fun H locs hP hD hS => ?_)
      obtain ⟨mru191, emru191⟩ : ∃ z : Nat → Int32, z = upd mru (Int32.toNatClampNeg mrs) v191 := ⟨_, rfl⟩
      have hf := nm_s emru191 hf
      rw [← emru191] at hP hD
      have hP : va_P G vwCl [(h, .inr (4, [.int mth, .int mtp, .int mbt, .int mmn, .ref a5, .int mrs, .ref a6, .long v161, .long v177, .long mht, .long mhb])), (a5, .inl (cI, 64, .inl mte)), (a6, .inl (cI, 64, .inl mru191))] H := hP
      have hD : va_D A [(h, .inr (4, [.int mth, .int mtp, .int mbt, .int mmn, .ref a5, .int mrs, .ref a6, .long v161, .long v177, .long mht, .long mhb])), (a5, .inl (cI, 64, .inl mte)), (a6, .inl (cI, 64, .inl mru191))] := hD
      refine lv_aload_n hx hb dX4_walk_192 rfl (lv_at hl 2 rfl) ?_
      refine lv_dup hx hb dX4_walk_193 rfl ?_
      refine va_get (D := G) (ci := 4) (v := .int mrs) (C := RX4) (T := TX4) (N := 11) hx hb hts hinX4 hown hK.1 hP 0 rfl rfl 5 (by decide) w0 (fun _ h9 => h9) rfl dX4_walk_194 ?_
      refine lv_iconst (v := 1) hx hb dX4_walk_197 (by decide) ?_
      refine lv_iadd hx hb dX4_walk_198 ?_
      refine lv_topi (fun v199 ev199 => ?_)
      have hf := nm_s ev199 hf
      refine va_put (D := G) (ci := 4) (v := .int v199) (ty := .int) (C := RX4) (T := TX4) (N := 11) hx hb hts hinX4 tyX4 tyX4_ok nmX4 hown hK.1 hP hD hS 0 rfl rfl 5 (by decide) w0 (fun _ h9 => h9) rfl (by decide +kernel) rfl rfl (Nat.le_of_ble_eq_true rfl) dX4_walk_199 (fun H locs hP hD hS => ?_)
      have hP : va_P G vwCl [(h, .inr (4, [.int mth, .int mtp, .int mbt, .int mmn, .ref a5, .int v199, .ref a6, .long v161, .long v177, .long mht, .long mhb])), (a5, .inl (cI, 64, .inl mte)), (a6, .inl (cI, 64, .inl mru191))] H := hP
      have hD : va_D A [(h, .inr (4, [.int mth, .int mtp, .int mbt, .int mmn, .ref a5, .int v199, .ref a6, .long v161, .long v177, .long mht, .long mhb])), (a5, .inl (cI, 64, .inl mte)), (a6, .inl (cI, 64, .inl mru191))] := hD
      refine lv_goto (tgt := 314) hx hb dX4_walk_202 (by decide) ?_
      exact J314 k38 hk38  v199 mru191 v161 v177 mht mhb y0 _ _ _ hf hP hD hS (lv_sub hl [2, 1] rfl)
  have B38 : ∀ (k38 : Int32 → (Nat → Int32) → Int64 → Int64 → Int64 → Int64 → Int32 → Option (Int32 × (Nat → Int32) × Int64 × Int64 × Int64 × Int64)) (hk38 : ∀ (mrs : Int32) (mru : Nat → Int32) (mlt : Int64) (mlb : Int64) (mht : Int64) (mhb : Int64) (x1 : Int32) (H : Heap) (locs : List Loc) (ls : Array Slot), k38 mrs mru mlt mlb mht mhb x1 = some (o_mrs, o_mru, o_mlt, o_mlb, o_mht, o_mhb) → va_P G vwCl [(h, .inr (4, [.int mth, .int mtp, .int mbt, .int mmn, .ref a5, .int mrs, .ref a6, .long mlt, .long mlb, .long mht, .long mhb])), (a5, .inl (cI, 64, .inl mte)), (a6, .inl (cI, 64, .inl mru))] H → va_D A [(h, .inr (4, [.int mth, .int mtp, .int mbt, .int mmn, .ref a5, .int mrs, .ref a6, .long mlt, .long mlb, .long mht, .long mhb])), (a5, .inl (cI, 64, .inl mte)), (a6, .inl (cI, 64, .inl mru))] → va_S A s.heap H locs → lv_has ls 10 [(0, .ref h), (1, .int x1)] → W p l e (headSpec wsX4_walk ({ frames := 1, cells := 0, slots := 0, locals := 23 })).room s m ([.ref h].toArray) below meth c H locs 0 0 (Qf (o_mrs, o_mru, o_mlt, o_mlb, o_mht, o_mhb)) (F0 m 38 ls [])) (mrs : Int32) (mru : Nat → Int32) (mlt : Int64) (mlb : Int64) (mht : Int64) (mhb : Int64) (x1 : Int32) (H : Heap) (locs : List Loc) (ls : Array Slot), fX4_walk_B38 k38 mtp mbt mrs mru mlt mlb mht mhb x1 = some (o_mrs, o_mru, o_mlt, o_mlb, o_mht, o_mhb) → va_P G vwCl [(h, .inr (4, [.int mth, .int mtp, .int mbt, .int mmn, .ref a5, .int mrs, .ref a6, .long mlt, .long mlb, .long mht, .long mhb])), (a5, .inl (cI, 64, .inl mte)), (a6, .inl (cI, 64, .inl mru))] H → va_D A [(h, .inr (4, [.int mth, .int mtp, .int mbt, .int mmn, .ref a5, .int mrs, .ref a6, .long mlt, .long mlb, .long mht, .long mhb])), (a5, .inl (cI, 64, .inl mte)), (a6, .inl (cI, 64, .inl mru))] → va_S A s.heap H locs → lv_has ls 10 [(0, .ref h), (1, .int x1)] → W p l e (headSpec wsX4_walk ({ frames := 1, cells := 0, slots := 0, locals := 23 })).room s m ([.ref h].toArray) below meth c H locs 0 0 (Qf (o_mrs, o_mru, o_mlt, o_mlb, o_mht, o_mhb)) (F0 m 38 ls []) := by
    intro k38 hk38  mrs mru mlt mlb mht mhb x1 H locs ls hf hP hD hS hl
    unfold fX4_walk_B38 at hf
    refine lv_iload_n hx hb dX4_walk_38 rfl (lv_at hl 1 rfl) ?_
    refine lv_if_eq (tgt := 317) hx hb dX4_walk_39 (by decide) (fun c39 => ?_) (fun c39 => ?_)
    · have hf := it_t c39 hf
      refine qf_s (Qf := Qf) hf ?_
      have hP9 : va_P G vwCl [(h, .inr (4, [.int mth, .int mtp, .int mbt, .int mmn, .ref a5, .int mrs, .ref a6, .long mlt, .long mlb, .long mht, .long mhb])), (a5, .inl (cI, 64, .inl mte)), (a6, .inl (cI, 64, .inl mru))] _ := hP.sub [0, 1, 2] rfl
      have hD9 : va_D A [(h, .inr (4, [.int mth, .int mtp, .int mbt, .int mmn, .ref a5, .int mrs, .ref a6, .long mlt, .long mlb, .long mht, .long mhb])), (a5, .inl (cI, 64, .inl mte)), (a6, .inl (cI, 64, .inl mru))] := hD.sub [0, 1, 2] (by decide) rfl
      rw [hQf]
      exact W.vret hx hb hr (fun t ht hW => ⟨⟨(), rfl, trivial, by rw [ht]; exact hP9, hD9⟩, hS.F ht⟩) hS.2.2 dX4_walk_317
    · have hf := it_f c39 hf
      refine lv_aload_n hx hb dX4_walk_42 rfl (lv_at hl 0 rfl) ?_
      refine va_get (D := G) (ci := 4) (v := .long mlt) (C := RX4) (T := TX4) (N := 11) hx hb hts hinX4 hown hK.1 hP 0 rfl rfl 7 (by decide) w2 (fun _ h9 => h9) rfl dX4_walk_43 ?_
      refine lv_aload_n hx hb dX4_walk_46 rfl (lv_at hl 0 rfl) ?_
      refine va_get (D := G) (ci := 4) (v := .long mht) (C := RX4) (T := TX4) (N := 11) hx hb hts hinX4 hown hK.1 hP 0 rfl rfl 9 (by decide) w4 (fun _ h9 => h9) rfl dX4_walk_47 ?_
      refine lv_ladd hx hb dX4_walk_50 ?_
      refine lv_topl (fun v51 ev51 => ?_)
      have hf := nm_s ev51 hf
      refine lv_lstore_n (lv' := [(2, .long v51), (0, .ref h), (1, .int x1)]) hx hb dX4_walk_51 rfl hl (by decide) rfl (fun ls hl => ?_)
      refine lv_aload_n hx hb dX4_walk_52 rfl (lv_at hl 1 rfl) ?_
      refine va_get (D := G) (ci := 4) (v := .long mlb) (C := RX4) (T := TX4) (N := 11) hx hb hts hinX4 hown hK.1 hP 0 rfl rfl 8 (by decide) w3 (fun _ h9 => h9) rfl dX4_walk_53 ?_
      refine lv_aload_n hx hb dX4_walk_56 rfl (lv_at hl 1 rfl) ?_
      refine va_get (D := G) (ci := 4) (v := .long mhb) (C := RX4) (T := TX4) (N := 11) hx hb hts hinX4 hown hK.1 hP 0 rfl rfl 10 (by decide) w5 (fun _ h9 => h9) rfl dX4_walk_57 ?_
      refine lv_ladd hx hb dX4_walk_60 ?_
      refine lv_topl (fun v61 ev61 => ?_)
      have hf := nm_s ev61 hf
      refine lv_lstore (lv' := [(4, .long v61), (2, .long v51), (0, .ref h), (1, .int x1)]) hx hb dX4_walk_61 hl (by decide) rfl (fun ls hl => ?_)
      refine lv_aload_n hx hb dX4_walk_63 rfl (lv_at hl 2 rfl) ?_
      refine va_get (D := G) (ci := 4) (v := .int mtp) (C := RX4) (T := TX4) (N := 11) hx hb hts hinX4 hown hK.1 hP 0 rfl rfl 1 (by decide) w6 (fun _ h9 => h9) rfl dX4_walk_64 ?_
      refine lv_i2l hx hb dX4_walk_67 rfl ?_
      refine lv_lload hx hb dX4_walk_68 (lv_at hl 0 rfl) ?_
      refine lv_lmul hx hb dX4_walk_70 ?_
      refine lv_lload_n hx hb dX4_walk_71 rfl (lv_at hl 1 rfl) ?_
      refine lv_aload_n hx hb dX4_walk_72 rfl (lv_at hl 2 rfl) ?_
      refine va_get (D := G) (ci := 4) (v := .int mbt) (C := RX4) (T := TX4) (N := 11) hx hb hts hinX4 hown hK.1 hP 0 rfl rfl 2 (by decide) w7 (fun _ h9 => h9) rfl dX4_walk_73 ?_
      refine lv_i2l hx hb dX4_walk_76 rfl ?_
      refine lv_lmul hx hb dX4_walk_77 ?_
      refine lv_lsub hx hb dX4_walk_78 ?_
      refine lv_topl (fun v79 ev79 => ?_)
      have hf := nm_s ev79 hf
      refine lv_lstore (lv' := [(6, .long v79), (4, .long v61), (2, .long v51), (0, .ref h), (1, .int x1)]) hx hb dX4_walk_79 hl (by decide) rfl (fun ls hl => ?_)
      refine lv_lload hx hb dX4_walk_81 (lv_at hl 0 rfl) ?_
      refine lv_lconst (v := 0) hx hb dX4_walk_83 (by decide) ?_
      refine W.lcmp hx hb dX4_walk_84 ?_
      refine lv_if_eq (tgt := 92) hx hb dX4_walk_85 (by decide) (fun c85 => ?_) (fun c85 => ?_)
      · have hf := it_t c85 hf
        refine lv_iconst (v := 0) hx hb dX4_walk_92 (by decide) ?_
        exact J93 k38 hk38  mrs mru mlt mlb mht mhb v79 0 _ _ _ hf hP hD hS (lv_sub hl [3, 0] rfl)
      · have hf := it_f c85 hf
        refine lv_iconst (v := 1) hx hb dX4_walk_88 (by decide) ?_
        refine lv_goto (tgt := 93) hx hb dX4_walk_89 (by decide) ?_
        exact J93 k38 hk38  mrs mru mlt mlb mht mhb v79 1 _ _ _ hf hP hD hS (lv_sub hl [3, 0] rfl)
  have L38 : ∀ (fu : Nat) (mrs : Int32) (mru : Nat → Int32) (mlt : Int64) (mlb : Int64) (mht : Int64) (mhb : Int64) (x1 : Int32) (H : Heap) (locs : List Loc) (ls : Array Slot), fX4_walk_L38  mtp mbt fu mrs mru mlt mlb mht mhb x1 = some (o_mrs, o_mru, o_mlt, o_mlb, o_mht, o_mhb) → va_P G vwCl [(h, .inr (4, [.int mth, .int mtp, .int mbt, .int mmn, .ref a5, .int mrs, .ref a6, .long mlt, .long mlb, .long mht, .long mhb])), (a5, .inl (cI, 64, .inl mte)), (a6, .inl (cI, 64, .inl mru))] H → va_D A [(h, .inr (4, [.int mth, .int mtp, .int mbt, .int mmn, .ref a5, .int mrs, .ref a6, .long mlt, .long mlb, .long mht, .long mhb])), (a5, .inl (cI, 64, .inl mte)), (a6, .inl (cI, 64, .inl mru))] → va_S A s.heap H locs → lv_has ls 10 [(0, .ref h), (1, .int x1)] → W p l e (headSpec wsX4_walk ({ frames := 1, cells := 0, slots := 0, locals := 23 })).room s m ([.ref h].toArray) below meth c H locs 0 0 (Qf (o_mrs, o_mru, o_mlt, o_mlb, o_mht, o_mhb)) (F0 m 38 ls []) := by
    intro  fu
    induction fu with
    | zero => intro  mrs mru mlt mlb mht mhb x1 H locs ls hf; cases hf
    | succ fu ih => intro  mrs mru mlt mlb mht mhb x1 H locs ls hf hP hD hS hl; exact B38 (fX4_walk_L38  mtp mbt fu) ih  mrs mru mlt mlb mht mhb x1 _ _ _ hf hP hD hS hl
  have J37 : ∀ (mrs : Int32) (mru : Nat → Int32) (mlt : Int64) (mlb : Int64) (mht : Int64) (mhb : Int64) (y0 : Int32) (H : Heap) (locs : List Loc) (ls : Array Slot), fX4_walk_J37  mtp mbt mrs mru mlt mlb mht mhb y0 = some (o_mrs, o_mru, o_mlt, o_mlb, o_mht, o_mhb) → va_P G vwCl [(h, .inr (4, [.int mth, .int mtp, .int mbt, .int mmn, .ref a5, .int mrs, .ref a6, .long mlt, .long mlb, .long mht, .long mhb])), (a5, .inl (cI, 64, .inl mte)), (a6, .inl (cI, 64, .inl mru))] H → va_D A [(h, .inr (4, [.int mth, .int mtp, .int mbt, .int mmn, .ref a5, .int mrs, .ref a6, .long mlt, .long mlb, .long mht, .long mhb])), (a5, .inl (cI, 64, .inl mte)), (a6, .inl (cI, 64, .inl mru))] → va_S A s.heap H locs → lv_has ls 10 [(0, .ref h)] → W p l e (headSpec wsX4_walk ({ frames := 1, cells := 0, slots := 0, locals := 23 })).room s m ([.ref h].toArray) below meth c H locs 0 0 (Qf (o_mrs, o_mru, o_mlt, o_mlb, o_mht, o_mhb)) (F0 m 37 ls [.int y0]) := by
    intro   mrs mru mlt mlb mht mhb y0 H locs ls hf hP hD hS hl
    unfold fX4_walk_J37 at hf
    refine lv_istore_n (lv' := [(1, .int y0), (0, .ref h)]) hx hb dX4_walk_37 rfl hl (by decide) rfl (fun ls hl => ?_)
    exact L38  FU  mrs mru mlt mlb mht mhb y0 _ _ _ hf hP hD hS (lv_sub hl [1, 0] rfl)
  have hl := lv_entry ([.ref h]) (n := 10) (Nat.le_of_ble_eq_true rfl)
  rw [lg_entry_eq]
  generalize (lg_sl ([.ref h]) ++ List.replicate (10 - (lg_sl ([.ref h])).length) Slot.unset).toArray = ls at hl ⊢
  have hl : lv_has ls 10 [(0, .ref h)] := hl
  unfold fX4_walk at hf
  refine lv_aload_n hx hb dX4_walk_0 rfl (lv_at hl 0 rfl) ?_
  refine lv_iconst (v := 0) hx hb dX4_walk_1 (by decide) ?_
  refine va_put (D := G) (ci := 4) (v := .int 0) (ty := .int) (C := RX4) (T := TX4) (N := 11) hx hb hts hinX4 tyX4 tyX4_ok nmX4 hown hK.1 hP hD hS 0 rfl rfl 5 (by decide) w0 (fun _ h9 => h9) rfl (by decide +kernel) rfl rfl (Nat.le_of_ble_eq_true rfl) dX4_walk_2 (fun H locs hP hD hS => ?_)
  have hP : va_P G vwCl [(h, .inr (4, [.int mth, .int mtp, .int mbt, .int mmn, .ref a5, .int 0, .ref a6, .long mlt, .long mlb, .long mht, .long mhb])), (a5, .inl (cI, 64, .inl mte)), (a6, .inl (cI, 64, .inl mru))] H := hP
  have hD : va_D A [(h, .inr (4, [.int mth, .int mtp, .int mbt, .int mmn, .ref a5, .int 0, .ref a6, .long mlt, .long mlb, .long mht, .long mhb])), (a5, .inl (cI, 64, .inl mte)), (a6, .inl (cI, 64, .inl mru))] := hD
  refine lv_aload_n hx hb dX4_walk_5 rfl (lv_at hl 0 rfl) ?_
  refine lv_lconst (v := 0) hx hb dX4_walk_6 (by decide) ?_
  refine va_put (D := G) (ci := 4) (v := .long 0) (ty := .long) (C := RX4) (T := TX4) (N := 11) hx hb hts hinX4 tyX4 tyX4_ok nmX4 hown hK.1 hP hD hS 0 rfl rfl 7 (by decide) w2 (fun _ h9 => h9) rfl (by decide +kernel) rfl rfl (Nat.le_of_ble_eq_true rfl) dX4_walk_7 (fun H locs hP hD hS => ?_)
  have hP : va_P G vwCl [(h, .inr (4, [.int mth, .int mtp, .int mbt, .int mmn, .ref a5, .int 0, .ref a6, .long 0, .long mlb, .long mht, .long mhb])), (a5, .inl (cI, 64, .inl mte)), (a6, .inl (cI, 64, .inl mru))] H := hP
  have hD : va_D A [(h, .inr (4, [.int mth, .int mtp, .int mbt, .int mmn, .ref a5, .int 0, .ref a6, .long 0, .long mlb, .long mht, .long mhb])), (a5, .inl (cI, 64, .inl mte)), (a6, .inl (cI, 64, .inl mru))] := hD
  refine lv_aload_n hx hb dX4_walk_10 rfl (lv_at hl 0 rfl) ?_
  refine lv_lconst (v := 1) hx hb dX4_walk_11 (by decide) ?_
  refine va_put (D := G) (ci := 4) (v := .long 1) (ty := .long) (C := RX4) (T := TX4) (N := 11) hx hb hts hinX4 tyX4 tyX4_ok nmX4 hown hK.1 hP hD hS 0 rfl rfl 8 (by decide) w3 (fun _ h9 => h9) rfl (by decide +kernel) rfl rfl (Nat.le_of_ble_eq_true rfl) dX4_walk_12 (fun H locs hP hD hS => ?_)
  have hP : va_P G vwCl [(h, .inr (4, [.int mth, .int mtp, .int mbt, .int mmn, .ref a5, .int 0, .ref a6, .long 0, .long 1, .long mht, .long mhb])), (a5, .inl (cI, 64, .inl mte)), (a6, .inl (cI, 64, .inl mru))] H := hP
  have hD : va_D A [(h, .inr (4, [.int mth, .int mtp, .int mbt, .int mmn, .ref a5, .int 0, .ref a6, .long 0, .long 1, .long mht, .long mhb])), (a5, .inl (cI, 64, .inl mte)), (a6, .inl (cI, 64, .inl mru))] := hD
  refine lv_aload_n hx hb dX4_walk_15 rfl (lv_at hl 0 rfl) ?_
  refine lv_lconst (v := 1) hx hb dX4_walk_16 (by decide) ?_
  refine va_put (D := G) (ci := 4) (v := .long 1) (ty := .long) (C := RX4) (T := TX4) (N := 11) hx hb hts hinX4 tyX4 tyX4_ok nmX4 hown hK.1 hP hD hS 0 rfl rfl 9 (by decide) w4 (fun _ h9 => h9) rfl (by decide +kernel) rfl rfl (Nat.le_of_ble_eq_true rfl) dX4_walk_17 (fun H locs hP hD hS => ?_)
  have hP : va_P G vwCl [(h, .inr (4, [.int mth, .int mtp, .int mbt, .int mmn, .ref a5, .int 0, .ref a6, .long 0, .long 1, .long 1, .long mhb])), (a5, .inl (cI, 64, .inl mte)), (a6, .inl (cI, 64, .inl mru))] H := hP
  have hD : va_D A [(h, .inr (4, [.int mth, .int mtp, .int mbt, .int mmn, .ref a5, .int 0, .ref a6, .long 0, .long 1, .long 1, .long mhb])), (a5, .inl (cI, 64, .inl mte)), (a6, .inl (cI, 64, .inl mru))] := hD
  refine lv_aload_n hx hb dX4_walk_20 rfl (lv_at hl 0 rfl) ?_
  refine lv_lconst (v := 0) hx hb dX4_walk_21 (by decide) ?_
  refine va_put (D := G) (ci := 4) (v := .long 0) (ty := .long) (C := RX4) (T := TX4) (N := 11) hx hb hts hinX4 tyX4 tyX4_ok nmX4 hown hK.1 hP hD hS 0 rfl rfl 10 (by decide) w5 (fun _ h9 => h9) rfl (by decide +kernel) rfl rfl (Nat.le_of_ble_eq_true rfl) dX4_walk_22 (fun H locs hP hD hS => ?_)
  have hP : va_P G vwCl [(h, .inr (4, [.int mth, .int mtp, .int mbt, .int mmn, .ref a5, .int 0, .ref a6, .long 0, .long 1, .long 1, .long 0])), (a5, .inl (cI, 64, .inl mte)), (a6, .inl (cI, 64, .inl mru))] H := hP
  have hD : va_D A [(h, .inr (4, [.int mth, .int mtp, .int mbt, .int mmn, .ref a5, .int 0, .ref a6, .long 0, .long 1, .long 1, .long 0])), (a5, .inl (cI, 64, .inl mte)), (a6, .inl (cI, 64, .inl mru))] := hD
  refine lv_aload_n hx hb dX4_walk_25 rfl (lv_at hl 0 rfl) ?_
  refine va_get (D := G) (ci := 4) (v := .int mtp) (C := RX4) (T := TX4) (N := 11) hx hb hts hinX4 hown hK.1 hP 0 rfl rfl 1 (by decide) w6 (fun _ h9 => h9) rfl dX4_walk_26 ?_
  refine lv_if_le (tgt := 36) hx hb dX4_walk_29 (by decide) (fun c29 => ?_) (fun c29 => ?_)
  · have hf := it_t c29 hf
    refine lv_iconst (v := 0) hx hb dX4_walk_36 (by decide) ?_
    exact J37   0 mru 0 1 1 0 0 _ _ _ hf hP hD hS (lv_sub hl [0] rfl)
  · have hf := it_f c29 hf
    refine lv_iconst (v := 1) hx hb dX4_walk_32 (by decide) ?_
    refine lv_goto (tgt := 37) hx hb dX4_walk_33 (by decide) ?_
    exact J37   0 mru 0 1 1 0 1 _ _ _ hf hP hD hS (lv_sub hl [0] rfl)
def fX4_way_J65 (k31 : Int32 → Int32 → (Nat → Int32) → Int64 → Int64 → Int64 → Int64 → Int32 → Int32 → Int32 → Option (Int32 × Int32 × Int32 × (Nat → Int32) × Int64 × Int64 × Int64 × Int64)) (mtp : Int32) (mbt : Int32) (mth : Int32) (mrs : Int32) (mru : Nat → Int32) (mlt : Int64) (mlb : Int64) (mht : Int64) (mhb : Int64) (x1 : Int32) (x3 : Int32) (y0 : Int32) (y1 : Int32) : Option (Int32 × Int32 × Int32 × (Nat → Int32) × Int64 × Int64 × Int64 × Int64) :=
  nm (y0 + y1) fun v66 =>
  nm (x3 + 1) fun v67 =>
  k31 mth mrs mru mlt mlb mht mhb x1 v66 v67
def fX4_way_B31 (k31 : Int32 → Int32 → (Nat → Int32) → Int64 → Int64 → Int64 → Int64 → Int32 → Int32 → Int32 → Option (Int32 × Int32 × Int32 × (Nat → Int32) × Int64 × Int64 × Int64 × Int64)) (mtp : Int32) (mbt : Int32) (mth : Int32) (mrs : Int32) (mru : Nat → Int32) (mlt : Int64) (mlb : Int64) (mht : Int64) (mhb : Int64) (x1 : Int32) (x2 : Int32) (x3 : Int32) : Option (Int32 × Int32 × Int32 × (Nat → Int32) × Int64 × Int64 × Int64 × Int64) :=
  if mrs ≤ x3 then
    if x1 = 0 then
      some (x2, mth, mrs, mru, mlt, mlb, mht, mhb)
    else
      some (mrs, mth, mrs, mru, mlt, mlb, mht, mhb)
  else
    ckI x3 64 <|
    if 0 ≤ (mru (Int32.toNatClampNeg x3)) then
      ckI x3 64 <|
      fX4_way_J65 k31 mtp mbt mth mrs mru mlt mlb mht mhb x1 x3 x2 (mru (Int32.toNatClampNeg x3))
    else
      ckI x3 64 <|
      fX4_way_J65 k31 mtp mbt mth mrs mru mlt mlb mht mhb x1 x3 x2 (-(mru (Int32.toNatClampNeg x3)))
def fX4_way_L31 (mtp : Int32) (mbt : Int32) : Nat → Int32 → Int32 → (Nat → Int32) → Int64 → Int64 → Int64 → Int64 → Int32 → Int32 → Int32 → Option (Int32 × Int32 × Int32 × (Nat → Int32) × Int64 × Int64 × Int64 × Int64)
  | 0, _, _, _, _, _, _, _, _, _, _ => none
  | n + 1, mth, mrs, mru, mlt, mlb, mht, mhb, x1, x2, x3 => fX4_way_B31 (fX4_way_L31  mtp mbt n) mtp mbt mth mrs mru mlt mlb mht mhb x1 x2 x3
def fX4_way_J23 (mtp : Int32) (mbt : Int32) (mth : Int32) (mrs : Int32) (mru : Nat → Int32) (mlt : Int64) (mlb : Int64) (mht : Int64) (mhb : Int64) (x1 : Int32) : Option (Int32 × Int32 × Int32 × (Nat → Int32) × Int64 × Int64 × Int64 × Int64) :=
  bd6 (fX4_walk mtp mbt mrs mru mlt mlb mht mhb) fun mrs_24 mru_24 mlt_24 mlb_24 mht_24 mhb_24 =>
  fX4_way_L31  mtp mbt FU mth mrs_24 mru_24 mlt_24 mlb_24 mht_24 mhb_24 x1 0 0
def fX4_way (mtp : Int32) (mbt : Int32) (mth : Int32) (mrs : Int32) (mru : Nat → Int32) (mlt : Int64) (mlb : Int64) (mht : Int64) (mhb : Int64) (p1 : Int32) : Option (Int32 × Int32 × Int32 × (Nat → Int32) × Int64 × Int64 × Int64 × Int64) :=
  if mtp = 0 then
    some ((-1), 0, mrs, mru, mlt, mlb, mht, mhb)
  else
    if p1 = 0 then
      fX4_way_J23  mtp mbt 0 mrs mru mlt mlb mht mhb p1
    else
      if p1 = 1 then
        fX4_way_J23  mtp mbt 0 mrs mru mlt mlb mht mhb p1
      else
        some ((-1), 0, mrs, mru, mlt, mlb, mht, mhb)
set_option maxHeartbeats 4000000 in
set_option maxRecDepth 100000 in
theorem zX4_way (l : Launch) (G : va_G) (cI : ClassId) (sz : Nat) (h a5 a6 : Nat) (mth : Int32) (mtp : Int32) (mbt : Int32) (mmn : Int32) (mte : Nat → Int32) (mrs : Int32) (mru : Nat → Int32) (mlt : Int64) (mlb : Int64) (mht : Int64) (mhb : Int64) (p1 : Int32) {rv : Int32} {o_mth : Int32} {o_mrs : Int32} {o_mru : Nat → Int32} {o_mlt : Int64} {o_mlb : Int64} {o_mht : Int64} {o_mhb : Int64} (hf : fX4_way mtp mbt mth mrs mru mlt mlb mht mhb p1 = some (rv, o_mth, o_mrs, o_mru, o_mlt, o_mlb, o_mht, o_mhb)) : mMi l yX4_way wsX4_way ({ frames := 2, cells := 0, slots := 0, locals := 52 }) [.ref h, .int p1] G cI [(h, .inr (4, [.int mth, .int mtp, .int mbt, .int mmn, .ref a5, .int mrs, .ref a6, .long mlt, .long mlb, .long mht, .long mhb])), (a5, .inl (cI, 64, .inl mte)), (a6, .inl (cI, 64, .inl mru))] sz rv [(h, .inr (4, [.int o_mth, .int mtp, .int mbt, .int mmn, .ref a5, .int o_mrs, .ref a6, .long o_mlt, .long o_mlb, .long o_mht, .long o_mhb])), (a5, .inl (cI, 64, .inl mte)), (a6, .inl (cI, 64, .inl o_mru))] 0 0 := by
  refine Met.ofW (cc := cX4_way) (maxL := 4) (ret := (some .int)) (by decide) rfl ?_
  intro p e s m args below meth c s₁ B hml hv
  obtain ⟨rfl, hsz, hP, hK, hD0⟩ := hv
  have hx := B.exec
  have hb := B.bytes
  have hr := B.returns
  have hts := atoms_spec (ws := wsX4_way) B.pre
  have hown : s.vm.findClass RX4 = some m.cls := findClass_of_methodNamed B.named
  have hlocks := B.notSynchronized
  subst hsz
  have hD := hD0.self (sz := s.heap.size)
  generalize hAe : va_A [(h, .inr (4, [.int mth, .int mtp, .int mbt, .int mmn, .ref a5, .int mrs, .ref a6, .long mlt, .long mlb, .long mht, .long mhb])), (a5, .inl (cI, 64, .inl mte)), (a6, .inl (cI, 64, .inl mru))] s.heap.size = A at hD ⊢
  have hA : ∀ q : Nat, s.heap.size ≤ q → A q := fun q h => by rw [← hAe]; exact Or.inr h
  have hS : va_S A s.heap s.heap [] := va_S.rf
  have w0 := hts (.fieldLink RX4 23 "SternDeskModel" "thrown" "I") (by decide +kernel)
  have hinX4 : ∀ w ∈ u_ws RX4 TX4 11, w ∈ wsX4_way := by decide +kernel
  have w2 := hts (.fieldLink RX4 7 "SternDeskModel" "top" "I") (by decide +kernel)
  have w3 := hts (.fieldLink RX4 46 "SternDeskModel" "runs" "I") (by decide +kernel)
  have w4 := hts (.fieldLink RX4 20 "SternDeskModel" "run" "[I") (by decide +kernel)
  obtain ⟨Qf, hQf⟩ : ∃ f : (Int32 × Int32 × Int32 × (Nat → Int32) × Int64 × Int64 × Int64 × Int64) → State → Prop, f = fun z => MQ below (va_Qi (fun (r : Int32) (_ : Unit) => r = z.1) (fun _ t => va_P G vwCl [(h, .inr (4, [.int z.2.1, .int mtp, .int mbt, .int mmn, .ref a5, .int z.2.2.1, .ref a6, .long z.2.2.2.2.1, .long z.2.2.2.2.2.1, .long z.2.2.2.2.2.2.1, .long z.2.2.2.2.2.2.2])), (a5, .inl (cI, 64, .inl mte)), (a6, .inl (cI, 64, .inl z.2.2.2.1))] t.heap ∧ va_D A [(h, .inr (4, [.int z.2.1, .int mtp, .int mbt, .int mmn, .ref a5, .int z.2.2.1, .ref a6, .long z.2.2.2.2.1, .long z.2.2.2.2.2.1, .long z.2.2.2.2.2.2.1, .long z.2.2.2.2.2.2.2])), (a5, .inl (cI, 64, .inl mte)), (a6, .inl (cI, 64, .inl z.2.2.2.1))]) A) ([.ref h, .int p1].toArray) s 0 0 A := ⟨_, rfl⟩
  suffices hgo : W p l e (headSpec wsX4_way ({ frames := 2, cells := 0, slots := 0, locals := 52 })).room s m ([.ref h, .int p1].toArray) below meth c s.heap [] 0 0 (Qf (rv, o_mth, o_mrs, o_mru, o_mlt, o_mlb, o_mht, o_mhb)) (entryFrame m ([.ref h, .int p1].toArray) 4) by rw [hQf] at hgo; exact hgo
  have J65 : ∀ (k31 : Int32 → Int32 → (Nat → Int32) → Int64 → Int64 → Int64 → Int64 → Int32 → Int32 → Int32 → Option (Int32 × Int32 × Int32 × (Nat → Int32) × Int64 × Int64 × Int64 × Int64)) (hk31 : ∀ (mth : Int32) (mrs : Int32) (mru : Nat → Int32) (mlt : Int64) (mlb : Int64) (mht : Int64) (mhb : Int64) (x1 : Int32) (x2 : Int32) (x3 : Int32) (H : Heap) (locs : List Loc) (ls : Array Slot), k31 mth mrs mru mlt mlb mht mhb x1 x2 x3 = some (rv, o_mth, o_mrs, o_mru, o_mlt, o_mlb, o_mht, o_mhb) → va_P G vwCl [(h, .inr (4, [.int mth, .int mtp, .int mbt, .int mmn, .ref a5, .int mrs, .ref a6, .long mlt, .long mlb, .long mht, .long mhb])), (a5, .inl (cI, 64, .inl mte)), (a6, .inl (cI, 64, .inl mru))] H → va_D A [(h, .inr (4, [.int mth, .int mtp, .int mbt, .int mmn, .ref a5, .int mrs, .ref a6, .long mlt, .long mlb, .long mht, .long mhb])), (a5, .inl (cI, 64, .inl mte)), (a6, .inl (cI, 64, .inl mru))] → va_S A s.heap H locs → lv_has ls 4 [(0, .ref h), (1, .int x1), (2, .int x2), (3, .int x3)] → W p l e (headSpec wsX4_way ({ frames := 2, cells := 0, slots := 0, locals := 52 })).room s m ([.ref h, .int p1].toArray) below meth c H locs 0 0 (Qf (rv, o_mth, o_mrs, o_mru, o_mlt, o_mlb, o_mht, o_mhb)) (F0 m 31 ls [])) (mth : Int32) (mrs : Int32) (mru : Nat → Int32) (mlt : Int64) (mlb : Int64) (mht : Int64) (mhb : Int64) (x1 : Int32) (x3 : Int32) (y0 : Int32) (y1 : Int32) (H : Heap) (locs : List Loc) (ls : Array Slot), fX4_way_J65 k31 mtp mbt mth mrs mru mlt mlb mht mhb x1 x3 y0 y1 = some (rv, o_mth, o_mrs, o_mru, o_mlt, o_mlb, o_mht, o_mhb) → va_P G vwCl [(h, .inr (4, [.int mth, .int mtp, .int mbt, .int mmn, .ref a5, .int mrs, .ref a6, .long mlt, .long mlb, .long mht, .long mhb])), (a5, .inl (cI, 64, .inl mte)), (a6, .inl (cI, 64, .inl mru))] H → va_D A [(h, .inr (4, [.int mth, .int mtp, .int mbt, .int mmn, .ref a5, .int mrs, .ref a6, .long mlt, .long mlb, .long mht, .long mhb])), (a5, .inl (cI, 64, .inl mte)), (a6, .inl (cI, 64, .inl mru))] → va_S A s.heap H locs → lv_has ls 4 [(0, .ref h), (1, .int x1), (3, .int x3)] → W p l e (headSpec wsX4_way ({ frames := 2, cells := 0, slots := 0, locals := 52 })).room s m ([.ref h, .int p1].toArray) below meth c H locs 0 0 (Qf (rv, o_mth, o_mrs, o_mru, o_mlt, o_mlb, o_mht, o_mhb)) (F0 m 65 ls [.int y1, .int y0]) := by
    intro k31 hk31  mth mrs mru mlt mlb mht mhb x1 x3 y0 y1 H locs ls hf hP hD hS hl
    unfold fX4_way_J65 at hf
    refine lv_iadd hx hb dX4_way_65 ?_
    refine lv_topi (fun v66 ev66 => ?_)
    have hf := nm_s ev66 hf
    refine lv_istore_n (lv' := [(2, .int v66), (0, .ref h), (1, .int x1), (3, .int x3)]) hx hb dX4_way_66 rfl hl (by decide) rfl (fun ls hl => ?_)
    obtain ⟨v67, ev67⟩ : ∃ y : Int32, y = x3 + 1 := ⟨_, rfl⟩
    have hf := nm_s ev67 hf
    refine lv_iinc (v := v67) (lv' := [(3, .int v67), (2, .int v66), (0, .ref h), (1, .int x1)]) hx hb dX4_way_67 hl (k := 3) rfl (by rw [ev67]; rfl) (by decide) rfl (fun ls hl => ?_)
    refine lv_goto (tgt := 31) hx hb dX4_way_70 (by decide) ?_
    exact hk31  mth mrs mru mlt mlb mht mhb x1 v66 v67 _ _ _ hf hP hD hS (lv_sub hl [2, 3, 1, 0] rfl)
  have B31 : ∀ (k31 : Int32 → Int32 → (Nat → Int32) → Int64 → Int64 → Int64 → Int64 → Int32 → Int32 → Int32 → Option (Int32 × Int32 × Int32 × (Nat → Int32) × Int64 × Int64 × Int64 × Int64)) (hk31 : ∀ (mth : Int32) (mrs : Int32) (mru : Nat → Int32) (mlt : Int64) (mlb : Int64) (mht : Int64) (mhb : Int64) (x1 : Int32) (x2 : Int32) (x3 : Int32) (H : Heap) (locs : List Loc) (ls : Array Slot), k31 mth mrs mru mlt mlb mht mhb x1 x2 x3 = some (rv, o_mth, o_mrs, o_mru, o_mlt, o_mlb, o_mht, o_mhb) → va_P G vwCl [(h, .inr (4, [.int mth, .int mtp, .int mbt, .int mmn, .ref a5, .int mrs, .ref a6, .long mlt, .long mlb, .long mht, .long mhb])), (a5, .inl (cI, 64, .inl mte)), (a6, .inl (cI, 64, .inl mru))] H → va_D A [(h, .inr (4, [.int mth, .int mtp, .int mbt, .int mmn, .ref a5, .int mrs, .ref a6, .long mlt, .long mlb, .long mht, .long mhb])), (a5, .inl (cI, 64, .inl mte)), (a6, .inl (cI, 64, .inl mru))] → va_S A s.heap H locs → lv_has ls 4 [(0, .ref h), (1, .int x1), (2, .int x2), (3, .int x3)] → W p l e (headSpec wsX4_way ({ frames := 2, cells := 0, slots := 0, locals := 52 })).room s m ([.ref h, .int p1].toArray) below meth c H locs 0 0 (Qf (rv, o_mth, o_mrs, o_mru, o_mlt, o_mlb, o_mht, o_mhb)) (F0 m 31 ls [])) (mth : Int32) (mrs : Int32) (mru : Nat → Int32) (mlt : Int64) (mlb : Int64) (mht : Int64) (mhb : Int64) (x1 : Int32) (x2 : Int32) (x3 : Int32) (H : Heap) (locs : List Loc) (ls : Array Slot), fX4_way_B31 k31 mtp mbt mth mrs mru mlt mlb mht mhb x1 x2 x3 = some (rv, o_mth, o_mrs, o_mru, o_mlt, o_mlb, o_mht, o_mhb) → va_P G vwCl [(h, .inr (4, [.int mth, .int mtp, .int mbt, .int mmn, .ref a5, .int mrs, .ref a6, .long mlt, .long mlb, .long mht, .long mhb])), (a5, .inl (cI, 64, .inl mte)), (a6, .inl (cI, 64, .inl mru))] H → va_D A [(h, .inr (4, [.int mth, .int mtp, .int mbt, .int mmn, .ref a5, .int mrs, .ref a6, .long mlt, .long mlb, .long mht, .long mhb])), (a5, .inl (cI, 64, .inl mte)), (a6, .inl (cI, 64, .inl mru))] → va_S A s.heap H locs → lv_has ls 4 [(0, .ref h), (1, .int x1), (2, .int x2), (3, .int x3)] → W p l e (headSpec wsX4_way ({ frames := 2, cells := 0, slots := 0, locals := 52 })).room s m ([.ref h, .int p1].toArray) below meth c H locs 0 0 (Qf (rv, o_mth, o_mrs, o_mru, o_mlt, o_mlb, o_mht, o_mhb)) (F0 m 31 ls []) := by
    intro k31 hk31  mth mrs mru mlt mlb mht mhb x1 x2 x3 H locs ls hf hP hD hS hl
    unfold fX4_way_B31 at hf
    refine lv_iload_n hx hb dX4_way_31 rfl (lv_at hl 3 rfl) ?_
    refine lv_aload_n hx hb dX4_way_32 rfl (lv_at hl 0 rfl) ?_
    refine va_get (D := G) (ci := 4) (v := .int mrs) (C := RX4) (T := TX4) (N := 11) hx hb hts hinX4 hown hK.1 hP 0 rfl rfl 5 (by decide) w3 (fun _ h9 => h9) rfl dX4_way_33 ?_
    refine lv_icmp_ge (tgt := 73) hx hb dX4_way_36 (by decide) (fun c36 => ?_) (fun c36 => ?_)
    · have hf := it_t c36 hf
      refine lv_iload_n hx hb dX4_way_73 rfl (lv_at hl 1 rfl) ?_
      refine lv_if_ne (tgt := 81) hx hb dX4_way_74 (by decide) (fun c74 => ?_) (fun c74 => ?_)
      · have hf := it_f c74 hf
        refine lv_aload_n hx hb dX4_way_81 rfl (lv_at hl 0 rfl) ?_
        refine va_get (D := G) (ci := 4) (v := .int mrs) (C := RX4) (T := TX4) (N := 11) hx hb hts hinX4 hown hK.1 hP 0 rfl rfl 5 (by decide) w3 (fun _ h9 => h9) rfl dX4_way_82 ?_
        refine qf_s (Qf := Qf) hf ?_
        have hP9 : va_P G vwCl [(h, .inr (4, [.int mth, .int mtp, .int mbt, .int mmn, .ref a5, .int mrs, .ref a6, .long mlt, .long mlb, .long mht, .long mhb])), (a5, .inl (cI, 64, .inl mte)), (a6, .inl (cI, 64, .inl mru))] _ := hP.sub [0, 1, 2] rfl
        have hD9 : va_D A [(h, .inr (4, [.int mth, .int mtp, .int mbt, .int mmn, .ref a5, .int mrs, .ref a6, .long mlt, .long mlb, .long mht, .long mhb])), (a5, .inl (cI, 64, .inl mte)), (a6, .inl (cI, 64, .inl mru))] := hD.sub [0, 1, 2] (by decide) rfl
        rw [hQf]
        exact W.iret hx hb hr (fun t ht hW => ⟨⟨_, (), rfl, rfl, by rw [ht]; exact hP9, hD9⟩, hS.F ht⟩) hS.2.2 dX4_way_85
      · have hf := it_t c74 hf
        refine lv_iload_n hx hb dX4_way_77 rfl (lv_at hl 2 rfl) ?_
        refine lv_goto (tgt := 85) hx hb dX4_way_78 (by decide) ?_
        refine qf_s (Qf := Qf) hf ?_
        have hP9 : va_P G vwCl [(h, .inr (4, [.int mth, .int mtp, .int mbt, .int mmn, .ref a5, .int mrs, .ref a6, .long mlt, .long mlb, .long mht, .long mhb])), (a5, .inl (cI, 64, .inl mte)), (a6, .inl (cI, 64, .inl mru))] _ := hP.sub [0, 1, 2] rfl
        have hD9 : va_D A [(h, .inr (4, [.int mth, .int mtp, .int mbt, .int mmn, .ref a5, .int mrs, .ref a6, .long mlt, .long mlb, .long mht, .long mhb])), (a5, .inl (cI, 64, .inl mte)), (a6, .inl (cI, 64, .inl mru))] := hD.sub [0, 1, 2] (by decide) rfl
        rw [hQf]
        exact W.iret hx hb hr (fun t ht hW => ⟨⟨_, (), rfl, rfl, by rw [ht]; exact hP9, hD9⟩, hS.F ht⟩) hS.2.2 dX4_way_85
    · have hf := it_f c36 hf
      refine lv_iload_n hx hb dX4_way_39 rfl (lv_at hl 2 rfl) ?_
      refine lv_aload_n hx hb dX4_way_40 rfl (lv_at hl 0 rfl) ?_
      refine va_get (D := G) (ci := 4) (v := .ref a6) (C := RX4) (T := TX4) (N := 11) hx hb hts hinX4 hown hK.1 hP 0 rfl rfl 6 (by decide) w4 (fun _ h9 => h9) rfl dX4_way_41 ?_
      refine lv_iload_n hx hb dX4_way_44 rfl (lv_at hl 3 rfl) ?_
      obtain ⟨hi45, hf⟩ := ckI_s hf
      refine va_iald hx hb hK.1 hP 2 0 rfl rfl hi45 dX4_way_45 ?_
      refine lv_if_ge (tgt := 59) hx hb dX4_way_46 (by decide) (fun c46 => ?_) (fun c46 => ?_)
      · have hf := it_t c46 hf
        refine lv_aload_n hx hb dX4_way_59 rfl (lv_at hl 0 rfl) ?_
        refine va_get (D := G) (ci := 4) (v := .ref a6) (C := RX4) (T := TX4) (N := 11) hx hb hts hinX4 hown hK.1 hP 0 rfl rfl 6 (by decide) w4 (fun _ h9 => h9) rfl dX4_way_60 ?_
        refine lv_iload_n hx hb dX4_way_63 rfl (lv_at hl 3 rfl) ?_
        obtain ⟨hi64, hf⟩ := ckI_s hf
        refine va_iald hx hb hK.1 hP 2 0 rfl rfl hi64 dX4_way_64 ?_
        exact J65 k31 hk31  mth mrs mru mlt mlb mht mhb x1 x3 x2 (mru (Int32.toNatClampNeg x3)) _ _ _ hf hP hD hS (lv_sub hl [0, 1, 3] rfl)
      · have hf := it_f c46 hf
        refine lv_aload_n hx hb dX4_way_49 rfl (lv_at hl 0 rfl) ?_
        refine va_get (D := G) (ci := 4) (v := .ref a6) (C := RX4) (T := TX4) (N := 11) hx hb hts hinX4 hown hK.1 hP 0 rfl rfl 6 (by decide) w4 (fun _ h9 => h9) rfl dX4_way_50 ?_
        refine lv_iload_n hx hb dX4_way_53 rfl (lv_at hl 3 rfl) ?_
        obtain ⟨hi54, hf⟩ := ckI_s hf
        refine va_iald hx hb hK.1 hP 2 0 rfl rfl hi54 dX4_way_54 ?_
        refine lv_ineg hx hb dX4_way_55 ?_
        refine lv_goto (tgt := 65) hx hb dX4_way_56 (by decide) ?_
        exact J65 k31 hk31  mth mrs mru mlt mlb mht mhb x1 x3 x2 (-(mru (Int32.toNatClampNeg x3))) _ _ _ hf hP hD hS (lv_sub hl [0, 1, 3] rfl)
  have L31 : ∀ (fu : Nat) (mth : Int32) (mrs : Int32) (mru : Nat → Int32) (mlt : Int64) (mlb : Int64) (mht : Int64) (mhb : Int64) (x1 : Int32) (x2 : Int32) (x3 : Int32) (H : Heap) (locs : List Loc) (ls : Array Slot), fX4_way_L31  mtp mbt fu mth mrs mru mlt mlb mht mhb x1 x2 x3 = some (rv, o_mth, o_mrs, o_mru, o_mlt, o_mlb, o_mht, o_mhb) → va_P G vwCl [(h, .inr (4, [.int mth, .int mtp, .int mbt, .int mmn, .ref a5, .int mrs, .ref a6, .long mlt, .long mlb, .long mht, .long mhb])), (a5, .inl (cI, 64, .inl mte)), (a6, .inl (cI, 64, .inl mru))] H → va_D A [(h, .inr (4, [.int mth, .int mtp, .int mbt, .int mmn, .ref a5, .int mrs, .ref a6, .long mlt, .long mlb, .long mht, .long mhb])), (a5, .inl (cI, 64, .inl mte)), (a6, .inl (cI, 64, .inl mru))] → va_S A s.heap H locs → lv_has ls 4 [(0, .ref h), (1, .int x1), (2, .int x2), (3, .int x3)] → W p l e (headSpec wsX4_way ({ frames := 2, cells := 0, slots := 0, locals := 52 })).room s m ([.ref h, .int p1].toArray) below meth c H locs 0 0 (Qf (rv, o_mth, o_mrs, o_mru, o_mlt, o_mlb, o_mht, o_mhb)) (F0 m 31 ls []) := by
    intro  fu
    induction fu with
    | zero => intro  mth mrs mru mlt mlb mht mhb x1 x2 x3 H locs ls hf; cases hf
    | succ fu ih => intro  mth mrs mru mlt mlb mht mhb x1 x2 x3 H locs ls hf hP hD hS hl; exact B31 (fX4_way_L31  mtp mbt fu) ih  mth mrs mru mlt mlb mht mhb x1 x2 x3 _ _ _ hf hP hD hS hl
  have J23 : ∀ (mth : Int32) (mrs : Int32) (mru : Nat → Int32) (mlt : Int64) (mlb : Int64) (mht : Int64) (mhb : Int64) (x1 : Int32) (H : Heap) (locs : List Loc) (ls : Array Slot), fX4_way_J23  mtp mbt mth mrs mru mlt mlb mht mhb x1 = some (rv, o_mth, o_mrs, o_mru, o_mlt, o_mlb, o_mht, o_mhb) → va_P G vwCl [(h, .inr (4, [.int mth, .int mtp, .int mbt, .int mmn, .ref a5, .int mrs, .ref a6, .long mlt, .long mlb, .long mht, .long mhb])), (a5, .inl (cI, 64, .inl mte)), (a6, .inl (cI, 64, .inl mru))] H → va_D A [(h, .inr (4, [.int mth, .int mtp, .int mbt, .int mmn, .ref a5, .int mrs, .ref a6, .long mlt, .long mlb, .long mht, .long mhb])), (a5, .inl (cI, 64, .inl mte)), (a6, .inl (cI, 64, .inl mru))] → va_S A s.heap H locs → lv_has ls 4 [(0, .ref h), (1, .int x1)] → W p l e (headSpec wsX4_way ({ frames := 2, cells := 0, slots := 0, locals := 52 })).room s m ([.ref h, .int p1].toArray) below meth c H locs 0 0 (Qf (rv, o_mth, o_mrs, o_mru, o_mlt, o_mlb, o_mht, o_mhb)) (F0 m 23 ls []) := by
    intro   mth mrs mru mlt mlb mht mhb x1 H locs ls hf hP hD hS hl
    unfold fX4_way_J23 at hf
    refine lv_aload_n hx hb dX4_way_23 rfl (lv_at hl 0 rfl) ?_
    obtain ⟨mrs_24, mru_24, mlt_24, mlb_24, mht_24, mhb_24, hv24, hf⟩ := bd6_s hf
    refine mcVv (As := []) (rest := []) (wr := []) (wc := [(h, .inr (4, [.int mth, .int mtp, .int mbt, .int mmn, .ref a5, .int mrs, .ref a6, .long mlt, .long mlb, .long mht, .long mhb])), (a5, .inl (cI, 64, .inl mte)), (a6, .inl (cI, 64, .inl mru))]) ⟨hx, hb, hml, hown, hts⟩ (zX4_walk l G cI _ h a5 a6 mth mtp mbt mmn mte mrs mru mlt mlb mht mhb  hv24) (cwV 0 hts gX4_way_X4_walk rfl rfl rfl (by decide +kernel) ⟨Nat.le_of_ble_eq_true rfl, Nat.le_of_ble_eq_true rfl⟩) hK hP hD [0, 1, 2] [] rfl rfl rfl (by decide) (by decide) (by decide) rfl rfl rfl hl.1 rfl (Nat.le_of_ble_eq_true rfl) dX4_way_24 ⟨Nat.le_of_ble_eq_true rfl, Nat.le_of_ble_eq_true rfl⟩ hS hA (fun H locs hP hD hz24 hS => ?_)
    have hP : va_P G vwCl [(h, .inr (4, [.int mth, .int mtp, .int mbt, .int mmn, .ref a5, .int mrs_24, .ref a6, .long mlt_24, .long mlb_24, .long mht_24, .long mhb_24])), (a5, .inl (cI, 64, .inl mte)), (a6, .inl (cI, 64, .inl mru_24))] H := hP
    have hD : va_D A [(h, .inr (4, [.int mth, .int mtp, .int mbt, .int mmn, .ref a5, .int mrs_24, .ref a6, .long mlt_24, .long mlb_24, .long mht_24, .long mhb_24])), (a5, .inl (cI, 64, .inl mte)), (a6, .inl (cI, 64, .inl mru_24))] := hD
    refine lv_iconst (v := 0) hx hb dX4_way_27 (by decide) ?_
    refine lv_istore_n (lv' := [(2, .int 0), (0, .ref h), (1, .int x1)]) hx hb dX4_way_28 rfl hl (by decide) rfl (fun ls hl => ?_)
    refine lv_iconst (v := 0) hx hb dX4_way_29 (by decide) ?_
    refine lv_istore_n (lv' := [(3, .int 0), (2, .int 0), (0, .ref h), (1, .int x1)]) hx hb dX4_way_30 rfl hl (by decide) rfl (fun ls hl => ?_)
    exact L31  FU  mth mrs_24 mru_24 mlt_24 mlb_24 mht_24 mhb_24 x1 0 0 _ _ _ hf hP hD hS (lv_sub hl [2, 3, 1, 0] rfl)
  have hl := lv_entry ([.ref h, .int p1]) (n := 4) (Nat.le_of_ble_eq_true rfl)
  rw [lg_entry_eq]
  generalize (lg_sl ([.ref h, .int p1]) ++ List.replicate (4 - (lg_sl ([.ref h, .int p1])).length) Slot.unset).toArray = ls at hl ⊢
  have hl : lv_has ls 4 [(0, .ref h), (1, .int p1)] := hl
  unfold fX4_way at hf
  refine lv_aload_n hx hb dX4_way_0 rfl (lv_at hl 0 rfl) ?_
  refine lv_iconst (v := 0) hx hb dX4_way_1 (by decide) ?_
  refine va_put (D := G) (ci := 4) (v := .int 0) (ty := .int) (C := RX4) (T := TX4) (N := 11) hx hb hts hinX4 tyX4 tyX4_ok nmX4 hown hK.1 hP hD hS 0 rfl rfl 0 (by decide) w0 (fun _ h9 => h9) rfl (by decide +kernel) rfl rfl (Nat.le_of_ble_eq_true rfl) dX4_way_2 (fun H locs hP hD hS => ?_)
  have hP : va_P G vwCl [(h, .inr (4, [.int 0, .int mtp, .int mbt, .int mmn, .ref a5, .int mrs, .ref a6, .long mlt, .long mlb, .long mht, .long mhb])), (a5, .inl (cI, 64, .inl mte)), (a6, .inl (cI, 64, .inl mru))] H := hP
  have hD : va_D A [(h, .inr (4, [.int 0, .int mtp, .int mbt, .int mmn, .ref a5, .int mrs, .ref a6, .long mlt, .long mlb, .long mht, .long mhb])), (a5, .inl (cI, 64, .inl mte)), (a6, .inl (cI, 64, .inl mru))] := hD
  refine lv_aload_n hx hb dX4_way_5 rfl (lv_at hl 0 rfl) ?_
  refine va_get (D := G) (ci := 4) (v := .int mtp) (C := RX4) (T := TX4) (N := 11) hx hb hts hinX4 hown hK.1 hP 0 rfl rfl 1 (by decide) w2 (fun _ h9 => h9) rfl dX4_way_6 ?_
  refine lv_if_eq (tgt := 21) hx hb dX4_way_9 (by decide) (fun c9 => ?_) (fun c9 => ?_)
  · have hf := it_t c9 hf
    refine lv_iconst (v := (-1)) hx hb dX4_way_21 (by decide) ?_
    refine qf_s (Qf := Qf) hf ?_
    have hP9 : va_P G vwCl [(h, .inr (4, [.int 0, .int mtp, .int mbt, .int mmn, .ref a5, .int mrs, .ref a6, .long mlt, .long mlb, .long mht, .long mhb])), (a5, .inl (cI, 64, .inl mte)), (a6, .inl (cI, 64, .inl mru))] _ := hP.sub [0, 1, 2] rfl
    have hD9 : va_D A [(h, .inr (4, [.int 0, .int mtp, .int mbt, .int mmn, .ref a5, .int mrs, .ref a6, .long mlt, .long mlb, .long mht, .long mhb])), (a5, .inl (cI, 64, .inl mte)), (a6, .inl (cI, 64, .inl mru))] := hD.sub [0, 1, 2] (by decide) rfl
    rw [hQf]
    exact W.iret hx hb hr (fun t ht hW => ⟨⟨_, (), rfl, rfl, by rw [ht]; exact hP9, hD9⟩, hS.F ht⟩) hS.2.2 dX4_way_22
  · have hf := it_f c9 hf
    refine lv_iload_n hx hb dX4_way_12 rfl (lv_at hl 1 rfl) ?_
    refine lv_if_eq (tgt := 23) hx hb dX4_way_13 (by decide) (fun c13 => ?_) (fun c13 => ?_)
    · have hf := it_t c13 hf
      exact J23   0 mrs mru mlt mlb mht mhb p1 _ _ _ hf hP hD hS (lv_sub hl [0, 1] rfl)
    · have hf := it_f c13 hf
      refine lv_iload_n hx hb dX4_way_16 rfl (lv_at hl 1 rfl) ?_
      refine lv_iconst (v := 1) hx hb dX4_way_17 (by decide) ?_
      refine lv_icmp_eq (tgt := 23) hx hb dX4_way_18 (by decide) (fun c18 => ?_) (fun c18 => ?_)
      · have hf := it_t c18 hf
        exact J23   0 mrs mru mlt mlb mht mhb p1 _ _ _ hf hP hD hS (lv_sub hl [0, 1] rfl)
      · have hf := it_f c18 hf
        refine lv_iconst (v := (-1)) hx hb dX4_way_21 (by decide) ?_
        refine qf_s (Qf := Qf) hf ?_
        have hP9 : va_P G vwCl [(h, .inr (4, [.int 0, .int mtp, .int mbt, .int mmn, .ref a5, .int mrs, .ref a6, .long mlt, .long mlb, .long mht, .long mhb])), (a5, .inl (cI, 64, .inl mte)), (a6, .inl (cI, 64, .inl mru))] _ := hP.sub [0, 1, 2] rfl
        have hD9 : va_D A [(h, .inr (4, [.int 0, .int mtp, .int mbt, .int mmn, .ref a5, .int mrs, .ref a6, .long mlt, .long mlb, .long mht, .long mhb])), (a5, .inl (cI, 64, .inl mte)), (a6, .inl (cI, 64, .inl mru))] := hD.sub [0, 1, 2] (by decide) rfl
        rw [hQf]
        exact W.iret hx hb hr (fun t ht hW => ⟨⟨_, (), rfl, rfl, by rw [ht]; exact hP9, hD9⟩, hS.F ht⟩) hS.2.2 dX4_way_22
def fX4_run (mtp : Int32) (mbt : Int32) (mth : Int32) (mrs : Int32) (mru : Nat → Int32) (mlt : Int64) (mlb : Int64) (mht : Int64) (mhb : Int64) (p1 : Int32) : Option (Int32 × Int32 × Int32 × (Nat → Int32) × Int64 × Int64 × Int64 × Int64) :=
  if mtp = 0 then
    some (0, 0, mrs, mru, mlt, mlb, mht, mhb)
  else
    bd6 (fX4_walk mtp mbt mrs mru mlt mlb mht mhb) fun mrs_15 mru_15 mlt_15 mlb_15 mht_15 mhb_15 =>
    if p1 < 0 then
      some (0, 0, mrs_15, mru_15, mlt_15, mlb_15, mht_15, mhb_15)
    else
      if mrs_15 ≤ p1 then
        some (0, 0, mrs_15, mru_15, mlt_15, mlb_15, mht_15, mhb_15)
      else
        ckI p1 64 <|
        some ((mru_15 (Int32.toNatClampNeg p1)), 0, mrs_15, mru_15, mlt_15, mlb_15, mht_15, mhb_15)
set_option maxHeartbeats 4000000 in
set_option maxRecDepth 100000 in
theorem zX4_run (l : Launch) (G : va_G) (cI : ClassId) (sz : Nat) (h a5 a6 : Nat) (mth : Int32) (mtp : Int32) (mbt : Int32) (mmn : Int32) (mte : Nat → Int32) (mrs : Int32) (mru : Nat → Int32) (mlt : Int64) (mlb : Int64) (mht : Int64) (mhb : Int64) (p1 : Int32) {rv : Int32} {o_mth : Int32} {o_mrs : Int32} {o_mru : Nat → Int32} {o_mlt : Int64} {o_mlb : Int64} {o_mht : Int64} {o_mhb : Int64} (hf : fX4_run mtp mbt mth mrs mru mlt mlb mht mhb p1 = some (rv, o_mth, o_mrs, o_mru, o_mlt, o_mlb, o_mht, o_mhb)) : mMi l yX4_run wsX4_run ({ frames := 2, cells := 0, slots := 0, locals := 52 }) [.ref h, .int p1] G cI [(h, .inr (4, [.int mth, .int mtp, .int mbt, .int mmn, .ref a5, .int mrs, .ref a6, .long mlt, .long mlb, .long mht, .long mhb])), (a5, .inl (cI, 64, .inl mte)), (a6, .inl (cI, 64, .inl mru))] sz rv [(h, .inr (4, [.int o_mth, .int mtp, .int mbt, .int mmn, .ref a5, .int o_mrs, .ref a6, .long o_mlt, .long o_mlb, .long o_mht, .long o_mhb])), (a5, .inl (cI, 64, .inl mte)), (a6, .inl (cI, 64, .inl o_mru))] 0 0 := by
  refine Met.ofW (cc := cX4_run) (maxL := 2) (ret := (some .int)) (by decide) rfl ?_
  intro p e s m args below meth c s₁ B hml hv
  obtain ⟨rfl, hsz, hP, hK, hD0⟩ := hv
  have hx := B.exec
  have hb := B.bytes
  have hr := B.returns
  have hts := atoms_spec (ws := wsX4_run) B.pre
  have hown : s.vm.findClass RX4 = some m.cls := findClass_of_methodNamed B.named
  have hlocks := B.notSynchronized
  subst hsz
  have hD := hD0.self (sz := s.heap.size)
  generalize hAe : va_A [(h, .inr (4, [.int mth, .int mtp, .int mbt, .int mmn, .ref a5, .int mrs, .ref a6, .long mlt, .long mlb, .long mht, .long mhb])), (a5, .inl (cI, 64, .inl mte)), (a6, .inl (cI, 64, .inl mru))] s.heap.size = A at hD ⊢
  have hA : ∀ q : Nat, s.heap.size ≤ q → A q := fun q h => by rw [← hAe]; exact Or.inr h
  have hS : va_S A s.heap s.heap [] := va_S.rf
  have w0 := hts (.fieldLink RX4 23 "SternDeskModel" "thrown" "I") (by decide +kernel)
  have hinX4 : ∀ w ∈ u_ws RX4 TX4 11, w ∈ wsX4_run := by decide +kernel
  have w2 := hts (.fieldLink RX4 7 "SternDeskModel" "top" "I") (by decide +kernel)
  have w3 := hts (.fieldLink RX4 46 "SternDeskModel" "runs" "I") (by decide +kernel)
  have w4 := hts (.fieldLink RX4 20 "SternDeskModel" "run" "[I") (by decide +kernel)
  obtain ⟨Qf, hQf⟩ : ∃ f : (Int32 × Int32 × Int32 × (Nat → Int32) × Int64 × Int64 × Int64 × Int64) → State → Prop, f = fun z => MQ below (va_Qi (fun (r : Int32) (_ : Unit) => r = z.1) (fun _ t => va_P G vwCl [(h, .inr (4, [.int z.2.1, .int mtp, .int mbt, .int mmn, .ref a5, .int z.2.2.1, .ref a6, .long z.2.2.2.2.1, .long z.2.2.2.2.2.1, .long z.2.2.2.2.2.2.1, .long z.2.2.2.2.2.2.2])), (a5, .inl (cI, 64, .inl mte)), (a6, .inl (cI, 64, .inl z.2.2.2.1))] t.heap ∧ va_D A [(h, .inr (4, [.int z.2.1, .int mtp, .int mbt, .int mmn, .ref a5, .int z.2.2.1, .ref a6, .long z.2.2.2.2.1, .long z.2.2.2.2.2.1, .long z.2.2.2.2.2.2.1, .long z.2.2.2.2.2.2.2])), (a5, .inl (cI, 64, .inl mte)), (a6, .inl (cI, 64, .inl z.2.2.2.1))]) A) ([.ref h, .int p1].toArray) s 0 0 A := ⟨_, rfl⟩
  suffices hgo : W p l e (headSpec wsX4_run ({ frames := 2, cells := 0, slots := 0, locals := 52 })).room s m ([.ref h, .int p1].toArray) below meth c s.heap [] 0 0 (Qf (rv, o_mth, o_mrs, o_mru, o_mlt, o_mlb, o_mht, o_mhb)) (entryFrame m ([.ref h, .int p1].toArray) 2) by rw [hQf] at hgo; exact hgo
  have hl := lv_entry ([.ref h, .int p1]) (n := 2) (Nat.le_of_ble_eq_true rfl)
  rw [lg_entry_eq]
  generalize (lg_sl ([.ref h, .int p1]) ++ List.replicate (2 - (lg_sl ([.ref h, .int p1])).length) Slot.unset).toArray = ls at hl ⊢
  have hl : lv_has ls 2 [(0, .ref h), (1, .int p1)] := hl
  unfold fX4_run at hf
  refine lv_aload_n hx hb dX4_run_0 rfl (lv_at hl 0 rfl) ?_
  refine lv_iconst (v := 0) hx hb dX4_run_1 (by decide) ?_
  refine va_put (D := G) (ci := 4) (v := .int 0) (ty := .int) (C := RX4) (T := TX4) (N := 11) hx hb hts hinX4 tyX4 tyX4_ok nmX4 hown hK.1 hP hD hS 0 rfl rfl 0 (by decide) w0 (fun _ h9 => h9) rfl (by decide +kernel) rfl rfl (Nat.le_of_ble_eq_true rfl) dX4_run_2 (fun H locs hP hD hS => ?_)
  have hP : va_P G vwCl [(h, .inr (4, [.int 0, .int mtp, .int mbt, .int mmn, .ref a5, .int mrs, .ref a6, .long mlt, .long mlb, .long mht, .long mhb])), (a5, .inl (cI, 64, .inl mte)), (a6, .inl (cI, 64, .inl mru))] H := hP
  have hD : va_D A [(h, .inr (4, [.int 0, .int mtp, .int mbt, .int mmn, .ref a5, .int mrs, .ref a6, .long mlt, .long mlb, .long mht, .long mhb])), (a5, .inl (cI, 64, .inl mte)), (a6, .inl (cI, 64, .inl mru))] := hD
  refine lv_aload_n hx hb dX4_run_5 rfl (lv_at hl 0 rfl) ?_
  refine va_get (D := G) (ci := 4) (v := .int mtp) (C := RX4) (T := TX4) (N := 11) hx hb hts hinX4 hown hK.1 hP 0 rfl rfl 1 (by decide) w2 (fun _ h9 => h9) rfl dX4_run_6 ?_
  refine lv_if_ne (tgt := 14) hx hb dX4_run_9 (by decide) (fun c9 => ?_) (fun c9 => ?_)
  · have hf := it_f c9 hf
    refine lv_aload_n hx hb dX4_run_14 rfl (lv_at hl 0 rfl) ?_
    obtain ⟨mrs_15, mru_15, mlt_15, mlb_15, mht_15, mhb_15, hv15, hf⟩ := bd6_s hf
    refine mcVv (As := []) (rest := []) (wr := []) (wc := [(h, .inr (4, [.int 0, .int mtp, .int mbt, .int mmn, .ref a5, .int mrs, .ref a6, .long mlt, .long mlb, .long mht, .long mhb])), (a5, .inl (cI, 64, .inl mte)), (a6, .inl (cI, 64, .inl mru))]) ⟨hx, hb, hml, hown, hts⟩ (zX4_walk l G cI _ h a5 a6 0 mtp mbt mmn mte mrs mru mlt mlb mht mhb  hv15) (cwV 0 hts gX4_run_X4_walk rfl rfl rfl (by decide +kernel) ⟨Nat.le_of_ble_eq_true rfl, Nat.le_of_ble_eq_true rfl⟩) hK hP hD [0, 1, 2] [] rfl rfl rfl (by decide) (by decide) (by decide) rfl rfl rfl hl.1 rfl (Nat.le_of_ble_eq_true rfl) dX4_run_15 ⟨Nat.le_of_ble_eq_true rfl, Nat.le_of_ble_eq_true rfl⟩ hS hA (fun H locs hP hD hz15 hS => ?_)
    have hP : va_P G vwCl [(h, .inr (4, [.int 0, .int mtp, .int mbt, .int mmn, .ref a5, .int mrs_15, .ref a6, .long mlt_15, .long mlb_15, .long mht_15, .long mhb_15])), (a5, .inl (cI, 64, .inl mte)), (a6, .inl (cI, 64, .inl mru_15))] H := hP
    have hD : va_D A [(h, .inr (4, [.int 0, .int mtp, .int mbt, .int mmn, .ref a5, .int mrs_15, .ref a6, .long mlt_15, .long mlb_15, .long mht_15, .long mhb_15])), (a5, .inl (cI, 64, .inl mte)), (a6, .inl (cI, 64, .inl mru_15))] := hD
    refine lv_iload_n hx hb dX4_run_18 rfl (lv_at hl 1 rfl) ?_
    refine lv_if_lt (tgt := 39) hx hb dX4_run_19 (by decide) (fun c19 => ?_) (fun c19 => ?_)
    · have hf := it_t c19 hf
      refine lv_iconst (v := 0) hx hb dX4_run_39 (by decide) ?_
      refine qf_s (Qf := Qf) hf ?_
      have hP9 : va_P G vwCl [(h, .inr (4, [.int 0, .int mtp, .int mbt, .int mmn, .ref a5, .int mrs_15, .ref a6, .long mlt_15, .long mlb_15, .long mht_15, .long mhb_15])), (a5, .inl (cI, 64, .inl mte)), (a6, .inl (cI, 64, .inl mru_15))] _ := hP.sub [0, 1, 2] rfl
      have hD9 : va_D A [(h, .inr (4, [.int 0, .int mtp, .int mbt, .int mmn, .ref a5, .int mrs_15, .ref a6, .long mlt_15, .long mlb_15, .long mht_15, .long mhb_15])), (a5, .inl (cI, 64, .inl mte)), (a6, .inl (cI, 64, .inl mru_15))] := hD.sub [0, 1, 2] (by decide) rfl
      rw [hQf]
      exact W.iret hx hb hr (fun t ht hW => ⟨⟨_, (), rfl, rfl, by rw [ht]; exact hP9, hD9⟩, hS.F ht⟩) hS.2.2 dX4_run_40
    · have hf := it_f c19 hf
      refine lv_iload_n hx hb dX4_run_22 rfl (lv_at hl 1 rfl) ?_
      refine lv_aload_n hx hb dX4_run_23 rfl (lv_at hl 0 rfl) ?_
      refine va_get (D := G) (ci := 4) (v := .int mrs_15) (C := RX4) (T := TX4) (N := 11) hx hb hts hinX4 hown hK.1 hP 0 rfl rfl 5 (by decide) w3 (fun _ h9 => h9) rfl dX4_run_24 ?_
      refine lv_icmp_ge (tgt := 39) hx hb dX4_run_27 (by decide) (fun c27 => ?_) (fun c27 => ?_)
      · have hf := it_t c27 hf
        refine lv_iconst (v := 0) hx hb dX4_run_39 (by decide) ?_
        refine qf_s (Qf := Qf) hf ?_
        have hP9 : va_P G vwCl [(h, .inr (4, [.int 0, .int mtp, .int mbt, .int mmn, .ref a5, .int mrs_15, .ref a6, .long mlt_15, .long mlb_15, .long mht_15, .long mhb_15])), (a5, .inl (cI, 64, .inl mte)), (a6, .inl (cI, 64, .inl mru_15))] _ := hP.sub [0, 1, 2] rfl
        have hD9 : va_D A [(h, .inr (4, [.int 0, .int mtp, .int mbt, .int mmn, .ref a5, .int mrs_15, .ref a6, .long mlt_15, .long mlb_15, .long mht_15, .long mhb_15])), (a5, .inl (cI, 64, .inl mte)), (a6, .inl (cI, 64, .inl mru_15))] := hD.sub [0, 1, 2] (by decide) rfl
        rw [hQf]
        exact W.iret hx hb hr (fun t ht hW => ⟨⟨_, (), rfl, rfl, by rw [ht]; exact hP9, hD9⟩, hS.F ht⟩) hS.2.2 dX4_run_40
      · have hf := it_f c27 hf
        refine lv_aload_n hx hb dX4_run_30 rfl (lv_at hl 0 rfl) ?_
        refine va_get (D := G) (ci := 4) (v := .ref a6) (C := RX4) (T := TX4) (N := 11) hx hb hts hinX4 hown hK.1 hP 0 rfl rfl 6 (by decide) w4 (fun _ h9 => h9) rfl dX4_run_31 ?_
        refine lv_iload_n hx hb dX4_run_34 rfl (lv_at hl 1 rfl) ?_
        obtain ⟨hi35, hf⟩ := ckI_s hf
        refine va_iald hx hb hK.1 hP 2 0 rfl rfl hi35 dX4_run_35 ?_
        refine lv_goto (tgt := 40) hx hb dX4_run_36 (by decide) ?_
        refine qf_s (Qf := Qf) hf ?_
        have hP9 : va_P G vwCl [(h, .inr (4, [.int 0, .int mtp, .int mbt, .int mmn, .ref a5, .int mrs_15, .ref a6, .long mlt_15, .long mlb_15, .long mht_15, .long mhb_15])), (a5, .inl (cI, 64, .inl mte)), (a6, .inl (cI, 64, .inl mru_15))] _ := hP.sub [0, 1, 2] rfl
        have hD9 : va_D A [(h, .inr (4, [.int 0, .int mtp, .int mbt, .int mmn, .ref a5, .int mrs_15, .ref a6, .long mlt_15, .long mlb_15, .long mht_15, .long mhb_15])), (a5, .inl (cI, 64, .inl mte)), (a6, .inl (cI, 64, .inl mru_15))] := hD.sub [0, 1, 2] (by decide) rfl
        rw [hQf]
        exact W.iret hx hb hr (fun t ht hW => ⟨⟨_, (), rfl, rfl, by rw [ht]; exact hP9, hD9⟩, hS.F ht⟩) hS.2.2 dX4_run_40
  · have hf := it_t c9 hf
    refine lv_iconst (v := 0) hx hb dX4_run_12 (by decide) ?_
    refine qf_s (Qf := Qf) hf ?_
    have hP9 : va_P G vwCl [(h, .inr (4, [.int 0, .int mtp, .int mbt, .int mmn, .ref a5, .int mrs, .ref a6, .long mlt, .long mlb, .long mht, .long mhb])), (a5, .inl (cI, 64, .inl mte)), (a6, .inl (cI, 64, .inl mru))] _ := hP.sub [0, 1, 2] rfl
    have hD9 : va_D A [(h, .inr (4, [.int 0, .int mtp, .int mbt, .int mmn, .ref a5, .int mrs, .ref a6, .long mlt, .long mlb, .long mht, .long mhb])), (a5, .inl (cI, 64, .inl mte)), (a6, .inl (cI, 64, .inl mru))] := hD.sub [0, 1, 2] (by decide) rfl
    rw [hQf]
    exact W.iret hx hb hr (fun t ht hW => ⟨⟨_, (), rfl, rfl, by rw [ht]; exact hP9, hD9⟩, hS.F ht⟩) hS.2.2 dX4_run_13
def fX4_go_J86 (mth : Int32) (mtp : Int32) (mbt : Int32) (mrs : Int32) (mru : Nat → Int32) (mlt : Int64) (mlb : Int64) (mht : Int64) (mhb : Int64) (x3 : Int64) (y0 : Int64) (y1 : Int64) (y2 : Int64) : Option (Int32 × Int32 × Int32 × Int32 × Int32 × (Nat → Int32) × Int64 × Int64 × Int64 × Int64) :=
  nm (y0 + (y1 * y2)) fun v88 =>
  if 0 < (lg_cmp x3 100000) then
    some (0, mth, mtp, mbt, mrs, mru, mlt, mlb, mht, mhb)
  else
    if (lg_cmp v88 100000) ≤ 0 then
      nm (Int64.toInt32 x3) fun v112 =>
      nm (Int64.toInt32 v88) fun v119 =>
      some (1, mth, v112, v119, mrs, mru, mlt, mlb, mht, mhb)
    else
      some (0, mth, mtp, mbt, mrs, mru, mlt, mlb, mht, mhb)
def fX4_go_J61 (mth : Int32) (mtp : Int32) (mbt : Int32) (mrs : Int32) (mru : Nat → Int32) (mlt : Int64) (mlb : Int64) (mht : Int64) (mhb : Int64) (x1 : Int32) (x2 : Int32) (y0 : Int64) (y1 : Int64) (y2 : Int64) : Option (Int32 × Int32 × Int32 × Int32 × Int32 × (Nat → Int32) × Int64 × Int64 × Int64 × Int64) :=
  nm (y0 + (y1 * y2)) fun v63 =>
  if x1 = 0 then
    fX4_go_J86   mth mtp mbt mrs mru mlt mlb mht mhb v63 (Int32.toInt64 mbt) (Int32.toInt64 x2) mlb
  else
    fX4_go_J86   mth mtp mbt mrs mru mlt mlb mht mhb v63 (Int32.toInt64 mbt) (Int32.toInt64 x2) mhb
def fX4_go_J14 (mth : Int32) (mtp : Int32) (mbt : Int32) (mrs : Int32) (mru : Nat → Int32) (mlt : Int64) (mlb : Int64) (mht : Int64) (mhb : Int64) (x1 : Int32) (x2 : Int32) : Option (Int32 × Int32 × Int32 × Int32 × Int32 × (Nat → Int32) × Int64 × Int64 × Int64 × Int64) :=
  bd1 (fX4_in (Int32.toInt64 x2) 0 100000) fun r20 =>
  if r20 = 0 then
    some (0, mth, mtp, mbt, mrs, mru, mlt, mlb, mht, mhb)
  else
    if mtp = 0 then
      some (0, mth, mtp, mbt, mrs, mru, mlt, mlb, mht, mhb)
    else
      bd6 (fX4_walk mtp mbt mrs mru mlt mlb mht mhb) fun mrs_36 mru_36 mlt_36 mlb_36 mht_36 mhb_36 =>
      if x1 = 0 then
        fX4_go_J61   mth mtp mbt mrs_36 mru_36 mlt_36 mlb_36 mht_36 mhb_36 x1 x2 (Int32.toInt64 mtp) (Int32.toInt64 x2) mlt_36
      else
        fX4_go_J61   mth mtp mbt mrs_36 mru_36 mlt_36 mlb_36 mht_36 mhb_36 x1 x2 (Int32.toInt64 mtp) (Int32.toInt64 x2) mht_36
def fX4_go (mth : Int32) (mtp : Int32) (mbt : Int32) (mrs : Int32) (mru : Nat → Int32) (mlt : Int64) (mlb : Int64) (mht : Int64) (mhb : Int64) (p1 : Int32) (p2 : Int32) : Option (Int32 × Int32 × Int32 × Int32 × Int32 × (Nat → Int32) × Int64 × Int64 × Int64 × Int64) :=
  if p1 = 0 then
    fX4_go_J14   0 mtp mbt mrs mru mlt mlb mht mhb p1 p2
  else
    if p1 = 1 then
      fX4_go_J14   0 mtp mbt mrs mru mlt mlb mht mhb p1 p2
    else
      some (0, 0, mtp, mbt, mrs, mru, mlt, mlb, mht, mhb)
set_option maxHeartbeats 4000000 in
set_option maxRecDepth 100000 in
theorem zX4_go (l : Launch) (G : va_G) (cI : ClassId) (sz : Nat) (h a5 a6 : Nat) (mth : Int32) (mtp : Int32) (mbt : Int32) (mmn : Int32) (mte : Nat → Int32) (mrs : Int32) (mru : Nat → Int32) (mlt : Int64) (mlb : Int64) (mht : Int64) (mhb : Int64) (p1 : Int32) (p2 : Int32) {rv : Int32} {o_mth : Int32} {o_mtp : Int32} {o_mbt : Int32} {o_mrs : Int32} {o_mru : Nat → Int32} {o_mlt : Int64} {o_mlb : Int64} {o_mht : Int64} {o_mhb : Int64} (hf : fX4_go mth mtp mbt mrs mru mlt mlb mht mhb p1 p2 = some (rv, o_mth, o_mtp, o_mbt, o_mrs, o_mru, o_mlt, o_mlb, o_mht, o_mhb)) : mMi l yX4_go wsX4_go ({ frames := 2, cells := 0, slots := 0, locals := 52 }) [.ref h, .int p1, .int p2] G cI [(h, .inr (4, [.int mth, .int mtp, .int mbt, .int mmn, .ref a5, .int mrs, .ref a6, .long mlt, .long mlb, .long mht, .long mhb])), (a5, .inl (cI, 64, .inl mte)), (a6, .inl (cI, 64, .inl mru))] sz rv [(h, .inr (4, [.int o_mth, .int o_mtp, .int o_mbt, .int mmn, .ref a5, .int o_mrs, .ref a6, .long o_mlt, .long o_mlb, .long o_mht, .long o_mhb])), (a5, .inl (cI, 64, .inl mte)), (a6, .inl (cI, 64, .inl o_mru))] 0 0 := by
  refine Met.ofW (cc := cX4_go) (maxL := 7) (ret := (some .int)) (by decide) rfl ?_
  intro p e s m args below meth c s₁ B hml hv
  obtain ⟨rfl, hsz, hP, hK, hD0⟩ := hv
  have hx := B.exec
  have hb := B.bytes
  have hr := B.returns
  have hts := atoms_spec (ws := wsX4_go) B.pre
  have hown : s.vm.findClass RX4 = some m.cls := findClass_of_methodNamed B.named
  have hlocks := B.notSynchronized
  subst hsz
  have hD := hD0.self (sz := s.heap.size)
  generalize hAe : va_A [(h, .inr (4, [.int mth, .int mtp, .int mbt, .int mmn, .ref a5, .int mrs, .ref a6, .long mlt, .long mlb, .long mht, .long mhb])), (a5, .inl (cI, 64, .inl mte)), (a6, .inl (cI, 64, .inl mru))] s.heap.size = A at hD ⊢
  have hA : ∀ q : Nat, s.heap.size ≤ q → A q := fun q h => by rw [← hAe]; exact Or.inr h
  have hS : va_S A s.heap s.heap [] := va_S.rf
  have w0 := hts (.fieldLink RX4 23 "SternDeskModel" "thrown" "I") (by decide +kernel)
  have hinX4 : ∀ w ∈ u_ws RX4 TX4 11, w ∈ wsX4_go := by decide +kernel
  have w2 := hts (.constantLong RX4 30 (100000)) (by decide +kernel)
  have w3 := hts (.fieldLink RX4 7 "SternDeskModel" "top" "I") (by decide +kernel)
  have w4 := hts (.fieldLink RX4 56 "SternDeskModel" "highTop" "J") (by decide +kernel)
  have w5 := hts (.fieldLink RX4 49 "SternDeskModel" "lowTop" "J") (by decide +kernel)
  have w6 := hts (.fieldLink RX4 13 "SternDeskModel" "bottom" "I") (by decide +kernel)
  have w7 := hts (.fieldLink RX4 59 "SternDeskModel" "highBottom" "J") (by decide +kernel)
  have w8 := hts (.fieldLink RX4 53 "SternDeskModel" "lowBottom" "J") (by decide +kernel)
  obtain ⟨Qf, hQf⟩ : ∃ f : (Int32 × Int32 × Int32 × Int32 × Int32 × (Nat → Int32) × Int64 × Int64 × Int64 × Int64) → State → Prop, f = fun z => MQ below (va_Qi (fun (r : Int32) (_ : Unit) => r = z.1) (fun _ t => va_P G vwCl [(h, .inr (4, [.int z.2.1, .int z.2.2.1, .int z.2.2.2.1, .int mmn, .ref a5, .int z.2.2.2.2.1, .ref a6, .long z.2.2.2.2.2.2.1, .long z.2.2.2.2.2.2.2.1, .long z.2.2.2.2.2.2.2.2.1, .long z.2.2.2.2.2.2.2.2.2])), (a5, .inl (cI, 64, .inl mte)), (a6, .inl (cI, 64, .inl z.2.2.2.2.2.1))] t.heap ∧ va_D A [(h, .inr (4, [.int z.2.1, .int z.2.2.1, .int z.2.2.2.1, .int mmn, .ref a5, .int z.2.2.2.2.1, .ref a6, .long z.2.2.2.2.2.2.1, .long z.2.2.2.2.2.2.2.1, .long z.2.2.2.2.2.2.2.2.1, .long z.2.2.2.2.2.2.2.2.2])), (a5, .inl (cI, 64, .inl mte)), (a6, .inl (cI, 64, .inl z.2.2.2.2.2.1))]) A) ([.ref h, .int p1, .int p2].toArray) s 0 0 A := ⟨_, rfl⟩
  suffices hgo : W p l e (headSpec wsX4_go ({ frames := 2, cells := 0, slots := 0, locals := 52 })).room s m ([.ref h, .int p1, .int p2].toArray) below meth c s.heap [] 0 0 (Qf (rv, o_mth, o_mtp, o_mbt, o_mrs, o_mru, o_mlt, o_mlb, o_mht, o_mhb)) (entryFrame m ([.ref h, .int p1, .int p2].toArray) 7) by rw [hQf] at hgo; exact hgo
  have J86 : ∀ (mth : Int32) (mtp : Int32) (mbt : Int32) (mrs : Int32) (mru : Nat → Int32) (mlt : Int64) (mlb : Int64) (mht : Int64) (mhb : Int64) (x3 : Int64) (y0 : Int64) (y1 : Int64) (y2 : Int64) (H : Heap) (locs : List Loc) (ls : Array Slot), fX4_go_J86   mth mtp mbt mrs mru mlt mlb mht mhb x3 y0 y1 y2 = some (rv, o_mth, o_mtp, o_mbt, o_mrs, o_mru, o_mlt, o_mlb, o_mht, o_mhb) → va_P G vwCl [(h, .inr (4, [.int mth, .int mtp, .int mbt, .int mmn, .ref a5, .int mrs, .ref a6, .long mlt, .long mlb, .long mht, .long mhb])), (a5, .inl (cI, 64, .inl mte)), (a6, .inl (cI, 64, .inl mru))] H → va_D A [(h, .inr (4, [.int mth, .int mtp, .int mbt, .int mmn, .ref a5, .int mrs, .ref a6, .long mlt, .long mlb, .long mht, .long mhb])), (a5, .inl (cI, 64, .inl mte)), (a6, .inl (cI, 64, .inl mru))] → va_S A s.heap H locs → lv_has ls 7 [(0, .ref h), (3, .long x3)] → W p l e (headSpec wsX4_go ({ frames := 2, cells := 0, slots := 0, locals := 52 })).room s m ([.ref h, .int p1, .int p2].toArray) below meth c H locs 0 0 (Qf (rv, o_mth, o_mtp, o_mbt, o_mrs, o_mru, o_mlt, o_mlb, o_mht, o_mhb)) (F0 m 86 ls [.long y2, .long y1, .long y0]) := by
    intro   mth mtp mbt mrs mru mlt mlb mht mhb x3 y0 y1 y2 H locs ls hf hP hD hS hl
    unfold fX4_go_J86 at hf
    refine lv_lmul hx hb dX4_go_86 ?_
    refine lv_ladd hx hb dX4_go_87 ?_
    refine lv_topl (fun v88 ev88 => ?_)
    have hf := nm_s ev88 hf
    refine lv_lstore (lv' := [(5, .long v88), (0, .ref h), (3, .long x3)]) hx hb dX4_go_88 hl (by decide) rfl (fun ls hl => ?_)
    refine lv_lload_n hx hb dX4_go_90 rfl (lv_at hl 2 rfl) ?_
    refine lv_ldc2 hx hb hown w2 dX4_go_91 ?_
    refine W.lcmp hx hb dX4_go_94 ?_
    refine lv_if_gt (tgt := 107) hx hb dX4_go_95 (by decide) (fun c95 => ?_) (fun c95 => ?_)
    · have hf := it_t c95 hf
      refine lv_iconst (v := 0) hx hb dX4_go_107 (by decide) ?_
      refine qf_s (Qf := Qf) hf ?_
      have hP9 : va_P G vwCl [(h, .inr (4, [.int mth, .int mtp, .int mbt, .int mmn, .ref a5, .int mrs, .ref a6, .long mlt, .long mlb, .long mht, .long mhb])), (a5, .inl (cI, 64, .inl mte)), (a6, .inl (cI, 64, .inl mru))] _ := hP.sub [0, 1, 2] rfl
      have hD9 : va_D A [(h, .inr (4, [.int mth, .int mtp, .int mbt, .int mmn, .ref a5, .int mrs, .ref a6, .long mlt, .long mlb, .long mht, .long mhb])), (a5, .inl (cI, 64, .inl mte)), (a6, .inl (cI, 64, .inl mru))] := hD.sub [0, 1, 2] (by decide) rfl
      rw [hQf]
      exact W.iret hx hb hr (fun t ht hW => ⟨⟨_, (), rfl, rfl, by rw [ht]; exact hP9, hD9⟩, hS.F ht⟩) hS.2.2 dX4_go_108
    · have hf := it_f c95 hf
      refine lv_lload hx hb dX4_go_98 (lv_at hl 0 rfl) ?_
      refine lv_ldc2 hx hb hown w2 dX4_go_100 ?_
      refine W.lcmp hx hb dX4_go_103 ?_
      refine lv_if_le (tgt := 109) hx hb dX4_go_104 (by decide) (fun c104 => ?_) (fun c104 => ?_)
      · have hf := it_t c104 hf
        refine lv_aload_n hx hb dX4_go_109 rfl (lv_at hl 1 rfl) ?_
        refine lv_lload_n hx hb dX4_go_110 rfl (lv_at hl 2 rfl) ?_
        refine lv_l2i hx hb dX4_go_111 rfl ?_
        refine lv_topi (fun v112 ev112 => ?_)
        have hf := nm_s ev112 hf
        refine va_put (D := G) (ci := 4) (v := .int v112) (ty := .int) (C := RX4) (T := TX4) (N := 11) hx hb hts hinX4 tyX4 tyX4_ok nmX4 hown hK.1 hP hD hS 0 rfl rfl 1 (by decide) w3 (fun _ h9 => h9) rfl (by decide +kernel) rfl rfl (Nat.le_of_ble_eq_true rfl) dX4_go_112 (fun H locs hP hD hS => ?_)
        have hP : va_P G vwCl [(h, .inr (4, [.int mth, .int v112, .int mbt, .int mmn, .ref a5, .int mrs, .ref a6, .long mlt, .long mlb, .long mht, .long mhb])), (a5, .inl (cI, 64, .inl mte)), (a6, .inl (cI, 64, .inl mru))] H := hP
        have hD : va_D A [(h, .inr (4, [.int mth, .int v112, .int mbt, .int mmn, .ref a5, .int mrs, .ref a6, .long mlt, .long mlb, .long mht, .long mhb])), (a5, .inl (cI, 64, .inl mte)), (a6, .inl (cI, 64, .inl mru))] := hD
        refine lv_aload_n hx hb dX4_go_115 rfl (lv_at hl 1 rfl) ?_
        refine lv_lload hx hb dX4_go_116 (lv_at hl 0 rfl) ?_
        refine lv_l2i hx hb dX4_go_118 rfl ?_
        refine lv_topi (fun v119 ev119 => ?_)
        have hf := nm_s ev119 hf
        refine va_put (D := G) (ci := 4) (v := .int v119) (ty := .int) (C := RX4) (T := TX4) (N := 11) hx hb hts hinX4 tyX4 tyX4_ok nmX4 hown hK.1 hP hD hS 0 rfl rfl 2 (by decide) w6 (fun _ h9 => h9) rfl (by decide +kernel) rfl rfl (Nat.le_of_ble_eq_true rfl) dX4_go_119 (fun H locs hP hD hS => ?_)
        have hP : va_P G vwCl [(h, .inr (4, [.int mth, .int v112, .int v119, .int mmn, .ref a5, .int mrs, .ref a6, .long mlt, .long mlb, .long mht, .long mhb])), (a5, .inl (cI, 64, .inl mte)), (a6, .inl (cI, 64, .inl mru))] H := hP
        have hD : va_D A [(h, .inr (4, [.int mth, .int v112, .int v119, .int mmn, .ref a5, .int mrs, .ref a6, .long mlt, .long mlb, .long mht, .long mhb])), (a5, .inl (cI, 64, .inl mte)), (a6, .inl (cI, 64, .inl mru))] := hD
        refine lv_iconst (v := 1) hx hb dX4_go_122 (by decide) ?_
        refine qf_s (Qf := Qf) hf ?_
        have hP9 : va_P G vwCl [(h, .inr (4, [.int mth, .int v112, .int v119, .int mmn, .ref a5, .int mrs, .ref a6, .long mlt, .long mlb, .long mht, .long mhb])), (a5, .inl (cI, 64, .inl mte)), (a6, .inl (cI, 64, .inl mru))] _ := hP.sub [0, 1, 2] rfl
        have hD9 : va_D A [(h, .inr (4, [.int mth, .int v112, .int v119, .int mmn, .ref a5, .int mrs, .ref a6, .long mlt, .long mlb, .long mht, .long mhb])), (a5, .inl (cI, 64, .inl mte)), (a6, .inl (cI, 64, .inl mru))] := hD.sub [0, 1, 2] (by decide) rfl
        rw [hQf]
        exact W.iret hx hb hr (fun t ht hW => ⟨⟨_, (), rfl, rfl, by rw [ht]; exact hP9, hD9⟩, hS.F ht⟩) hS.2.2 dX4_go_123
      · have hf := it_f c104 hf
        refine lv_iconst (v := 0) hx hb dX4_go_107 (by decide) ?_
        refine qf_s (Qf := Qf) hf ?_
        have hP9 : va_P G vwCl [(h, .inr (4, [.int mth, .int mtp, .int mbt, .int mmn, .ref a5, .int mrs, .ref a6, .long mlt, .long mlb, .long mht, .long mhb])), (a5, .inl (cI, 64, .inl mte)), (a6, .inl (cI, 64, .inl mru))] _ := hP.sub [0, 1, 2] rfl
        have hD9 : va_D A [(h, .inr (4, [.int mth, .int mtp, .int mbt, .int mmn, .ref a5, .int mrs, .ref a6, .long mlt, .long mlb, .long mht, .long mhb])), (a5, .inl (cI, 64, .inl mte)), (a6, .inl (cI, 64, .inl mru))] := hD.sub [0, 1, 2] (by decide) rfl
        rw [hQf]
        exact W.iret hx hb hr (fun t ht hW => ⟨⟨_, (), rfl, rfl, by rw [ht]; exact hP9, hD9⟩, hS.F ht⟩) hS.2.2 dX4_go_108
  have J61 : ∀ (mth : Int32) (mtp : Int32) (mbt : Int32) (mrs : Int32) (mru : Nat → Int32) (mlt : Int64) (mlb : Int64) (mht : Int64) (mhb : Int64) (x1 : Int32) (x2 : Int32) (y0 : Int64) (y1 : Int64) (y2 : Int64) (H : Heap) (locs : List Loc) (ls : Array Slot), fX4_go_J61   mth mtp mbt mrs mru mlt mlb mht mhb x1 x2 y0 y1 y2 = some (rv, o_mth, o_mtp, o_mbt, o_mrs, o_mru, o_mlt, o_mlb, o_mht, o_mhb) → va_P G vwCl [(h, .inr (4, [.int mth, .int mtp, .int mbt, .int mmn, .ref a5, .int mrs, .ref a6, .long mlt, .long mlb, .long mht, .long mhb])), (a5, .inl (cI, 64, .inl mte)), (a6, .inl (cI, 64, .inl mru))] H → va_D A [(h, .inr (4, [.int mth, .int mtp, .int mbt, .int mmn, .ref a5, .int mrs, .ref a6, .long mlt, .long mlb, .long mht, .long mhb])), (a5, .inl (cI, 64, .inl mte)), (a6, .inl (cI, 64, .inl mru))] → va_S A s.heap H locs → lv_has ls 7 [(0, .ref h), (1, .int x1), (2, .int x2)] → W p l e (headSpec wsX4_go ({ frames := 2, cells := 0, slots := 0, locals := 52 })).room s m ([.ref h, .int p1, .int p2].toArray) below meth c H locs 0 0 (Qf (rv, o_mth, o_mtp, o_mbt, o_mrs, o_mru, o_mlt, o_mlb, o_mht, o_mhb)) (F0 m 61 ls [.long y2, .long y1, .long y0]) := by
    intro   mth mtp mbt mrs mru mlt mlb mht mhb x1 x2 y0 y1 y2 H locs ls hf hP hD hS hl
    unfold fX4_go_J61 at hf
    refine lv_lmul hx hb dX4_go_61 ?_
    refine lv_ladd hx hb dX4_go_62 ?_
    refine lv_topl (fun v63 ev63 => ?_)
    have hf := nm_s ev63 hf
    refine lv_lstore_n (lv' := [(3, .long v63), (0, .ref h), (1, .int x1), (2, .int x2)]) hx hb dX4_go_63 rfl hl (by decide) rfl (fun ls hl => ?_)
    refine lv_aload_n hx hb dX4_go_64 rfl (lv_at hl 1 rfl) ?_
    refine va_get (D := G) (ci := 4) (v := .int mbt) (C := RX4) (T := TX4) (N := 11) hx hb hts hinX4 hown hK.1 hP 0 rfl rfl 2 (by decide) w6 (fun _ h9 => h9) rfl dX4_go_65 ?_
    refine lv_i2l hx hb dX4_go_68 rfl ?_
    refine lv_iload_n hx hb dX4_go_69 rfl (lv_at hl 3 rfl) ?_
    refine lv_i2l hx hb dX4_go_70 rfl ?_
    refine lv_iload_n hx hb dX4_go_71 rfl (lv_at hl 2 rfl) ?_
    refine lv_if_ne (tgt := 82) hx hb dX4_go_72 (by decide) (fun c72 => ?_) (fun c72 => ?_)
    · have hf := it_f c72 hf
      refine lv_aload_n hx hb dX4_go_82 rfl (lv_at hl 1 rfl) ?_
      refine va_get (D := G) (ci := 4) (v := .long mhb) (C := RX4) (T := TX4) (N := 11) hx hb hts hinX4 hown hK.1 hP 0 rfl rfl 10 (by decide) w7 (fun _ h9 => h9) rfl dX4_go_83 ?_
      exact J86   mth mtp mbt mrs mru mlt mlb mht mhb v63 (Int32.toInt64 mbt) (Int32.toInt64 x2) mhb _ _ _ hf hP hD hS (lv_sub hl [1, 0] rfl)
    · have hf := it_t c72 hf
      refine lv_aload_n hx hb dX4_go_75 rfl (lv_at hl 1 rfl) ?_
      refine va_get (D := G) (ci := 4) (v := .long mlb) (C := RX4) (T := TX4) (N := 11) hx hb hts hinX4 hown hK.1 hP 0 rfl rfl 8 (by decide) w8 (fun _ h9 => h9) rfl dX4_go_76 ?_
      refine lv_goto (tgt := 86) hx hb dX4_go_79 (by decide) ?_
      exact J86   mth mtp mbt mrs mru mlt mlb mht mhb v63 (Int32.toInt64 mbt) (Int32.toInt64 x2) mlb _ _ _ hf hP hD hS (lv_sub hl [1, 0] rfl)
  have J14 : ∀ (mth : Int32) (mtp : Int32) (mbt : Int32) (mrs : Int32) (mru : Nat → Int32) (mlt : Int64) (mlb : Int64) (mht : Int64) (mhb : Int64) (x1 : Int32) (x2 : Int32) (H : Heap) (locs : List Loc) (ls : Array Slot), fX4_go_J14   mth mtp mbt mrs mru mlt mlb mht mhb x1 x2 = some (rv, o_mth, o_mtp, o_mbt, o_mrs, o_mru, o_mlt, o_mlb, o_mht, o_mhb) → va_P G vwCl [(h, .inr (4, [.int mth, .int mtp, .int mbt, .int mmn, .ref a5, .int mrs, .ref a6, .long mlt, .long mlb, .long mht, .long mhb])), (a5, .inl (cI, 64, .inl mte)), (a6, .inl (cI, 64, .inl mru))] H → va_D A [(h, .inr (4, [.int mth, .int mtp, .int mbt, .int mmn, .ref a5, .int mrs, .ref a6, .long mlt, .long mlb, .long mht, .long mhb])), (a5, .inl (cI, 64, .inl mte)), (a6, .inl (cI, 64, .inl mru))] → va_S A s.heap H locs → lv_has ls 7 [(0, .ref h), (1, .int x1), (2, .int x2)] → W p l e (headSpec wsX4_go ({ frames := 2, cells := 0, slots := 0, locals := 52 })).room s m ([.ref h, .int p1, .int p2].toArray) below meth c H locs 0 0 (Qf (rv, o_mth, o_mtp, o_mbt, o_mrs, o_mru, o_mlt, o_mlb, o_mht, o_mhb)) (F0 m 14 ls []) := by
    intro   mth mtp mbt mrs mru mlt mlb mht mhb x1 x2 H locs ls hf hP hD hS hl
    unfold fX4_go_J14 at hf
    refine lv_iload_n hx hb dX4_go_14 rfl (lv_at hl 2 rfl) ?_
    refine lv_i2l hx hb dX4_go_15 rfl ?_
    refine lv_lconst (v := 0) hx hb dX4_go_16 (by decide) ?_
    refine lv_ldc2 hx hb hown w2 dX4_go_17 ?_
    obtain ⟨r20, hv20, hf⟩ := bd1_s hf
    refine roSi (As := [.long (Int32.toInt64 x2), .long 0, .long 100000]) (rest := []) ⟨hx, hb, hml, hown, hts⟩ (zX4_in l G cI _ (Int32.toInt64 x2) 0 100000 hv20) (va_cwS 3 hts gX4_go_X4_in rfl rfl rfl (by decide +kernel) ⟨Nat.le_of_ble_eq_true rfl, Nat.le_of_ble_eq_true rfl⟩) hK hP rfl hl.1 rfl (Nat.le_of_ble_eq_true rfl) dX4_go_20 ⟨Nat.le_of_ble_eq_true rfl, Nat.le_of_ble_eq_true rfl⟩ hS hA (fun H locs hP hz20 hS => ?_)
    refine lv_if_eq (tgt := 33) hx hb dX4_go_23 (by decide) (fun c23 => ?_) (fun c23 => ?_)
    · have hf := it_t c23 hf
      refine lv_iconst (v := 0) hx hb dX4_go_33 (by decide) ?_
      refine qf_s (Qf := Qf) hf ?_
      have hP9 : va_P G vwCl [(h, .inr (4, [.int mth, .int mtp, .int mbt, .int mmn, .ref a5, .int mrs, .ref a6, .long mlt, .long mlb, .long mht, .long mhb])), (a5, .inl (cI, 64, .inl mte)), (a6, .inl (cI, 64, .inl mru))] _ := hP.sub [0, 1, 2] rfl
      have hD9 : va_D A [(h, .inr (4, [.int mth, .int mtp, .int mbt, .int mmn, .ref a5, .int mrs, .ref a6, .long mlt, .long mlb, .long mht, .long mhb])), (a5, .inl (cI, 64, .inl mte)), (a6, .inl (cI, 64, .inl mru))] := hD.sub [0, 1, 2] (by decide) rfl
      rw [hQf]
      exact W.iret hx hb hr (fun t ht hW => ⟨⟨_, (), rfl, rfl, by rw [ht]; exact hP9, hD9⟩, hS.F ht⟩) hS.2.2 dX4_go_34
    · have hf := it_f c23 hf
      refine lv_aload_n hx hb dX4_go_26 rfl (lv_at hl 0 rfl) ?_
      refine va_get (D := G) (ci := 4) (v := .int mtp) (C := RX4) (T := TX4) (N := 11) hx hb hts hinX4 hown hK.1 hP 0 rfl rfl 1 (by decide) w3 (fun _ h9 => h9) rfl dX4_go_27 ?_
      refine lv_if_ne (tgt := 35) hx hb dX4_go_30 (by decide) (fun c30 => ?_) (fun c30 => ?_)
      · have hf := it_f c30 hf
        refine lv_aload_n hx hb dX4_go_35 rfl (lv_at hl 0 rfl) ?_
        obtain ⟨mrs_36, mru_36, mlt_36, mlb_36, mht_36, mhb_36, hv36, hf⟩ := bd6_s hf
        refine mcVv (As := []) (rest := []) (wr := []) (wc := [(h, .inr (4, [.int mth, .int mtp, .int mbt, .int mmn, .ref a5, .int mrs, .ref a6, .long mlt, .long mlb, .long mht, .long mhb])), (a5, .inl (cI, 64, .inl mte)), (a6, .inl (cI, 64, .inl mru))]) ⟨hx, hb, hml, hown, hts⟩ (zX4_walk l G cI _ h a5 a6 mth mtp mbt mmn mte mrs mru mlt mlb mht mhb  hv36) (cwV 0 hts gX4_go_X4_walk rfl rfl rfl (by decide +kernel) ⟨Nat.le_of_ble_eq_true rfl, Nat.le_of_ble_eq_true rfl⟩) hK hP hD [0, 1, 2] [] rfl rfl rfl (by decide) (by decide) (by decide) rfl rfl rfl hl.1 rfl (Nat.le_of_ble_eq_true rfl) dX4_go_36 ⟨Nat.le_of_ble_eq_true rfl, Nat.le_of_ble_eq_true rfl⟩ hS hA (fun H locs hP hD hz36 hS => ?_)
        have hP : va_P G vwCl [(h, .inr (4, [.int mth, .int mtp, .int mbt, .int mmn, .ref a5, .int mrs_36, .ref a6, .long mlt_36, .long mlb_36, .long mht_36, .long mhb_36])), (a5, .inl (cI, 64, .inl mte)), (a6, .inl (cI, 64, .inl mru_36))] H := hP
        have hD : va_D A [(h, .inr (4, [.int mth, .int mtp, .int mbt, .int mmn, .ref a5, .int mrs_36, .ref a6, .long mlt_36, .long mlb_36, .long mht_36, .long mhb_36])), (a5, .inl (cI, 64, .inl mte)), (a6, .inl (cI, 64, .inl mru_36))] := hD
        refine lv_aload_n hx hb dX4_go_39 rfl (lv_at hl 0 rfl) ?_
        refine va_get (D := G) (ci := 4) (v := .int mtp) (C := RX4) (T := TX4) (N := 11) hx hb hts hinX4 hown hK.1 hP 0 rfl rfl 1 (by decide) w3 (fun _ h9 => h9) rfl dX4_go_40 ?_
        refine lv_i2l hx hb dX4_go_43 rfl ?_
        refine lv_iload_n hx hb dX4_go_44 rfl (lv_at hl 2 rfl) ?_
        refine lv_i2l hx hb dX4_go_45 rfl ?_
        refine lv_iload_n hx hb dX4_go_46 rfl (lv_at hl 1 rfl) ?_
        refine lv_if_ne (tgt := 57) hx hb dX4_go_47 (by decide) (fun c47 => ?_) (fun c47 => ?_)
        · have hf := it_f c47 hf
          refine lv_aload_n hx hb dX4_go_57 rfl (lv_at hl 0 rfl) ?_
          refine va_get (D := G) (ci := 4) (v := .long mht_36) (C := RX4) (T := TX4) (N := 11) hx hb hts hinX4 hown hK.1 hP 0 rfl rfl 9 (by decide) w4 (fun _ h9 => h9) rfl dX4_go_58 ?_
          exact J61   mth mtp mbt mrs_36 mru_36 mlt_36 mlb_36 mht_36 mhb_36 x1 x2 (Int32.toInt64 mtp) (Int32.toInt64 x2) mht_36 _ _ _ hf hP hD hS (lv_sub hl [0, 1, 2] rfl)
        · have hf := it_t c47 hf
          refine lv_aload_n hx hb dX4_go_50 rfl (lv_at hl 0 rfl) ?_
          refine va_get (D := G) (ci := 4) (v := .long mlt_36) (C := RX4) (T := TX4) (N := 11) hx hb hts hinX4 hown hK.1 hP 0 rfl rfl 7 (by decide) w5 (fun _ h9 => h9) rfl dX4_go_51 ?_
          refine lv_goto (tgt := 61) hx hb dX4_go_54 (by decide) ?_
          exact J61   mth mtp mbt mrs_36 mru_36 mlt_36 mlb_36 mht_36 mhb_36 x1 x2 (Int32.toInt64 mtp) (Int32.toInt64 x2) mlt_36 _ _ _ hf hP hD hS (lv_sub hl [0, 1, 2] rfl)
      · have hf := it_t c30 hf
        refine lv_iconst (v := 0) hx hb dX4_go_33 (by decide) ?_
        refine qf_s (Qf := Qf) hf ?_
        have hP9 : va_P G vwCl [(h, .inr (4, [.int mth, .int mtp, .int mbt, .int mmn, .ref a5, .int mrs, .ref a6, .long mlt, .long mlb, .long mht, .long mhb])), (a5, .inl (cI, 64, .inl mte)), (a6, .inl (cI, 64, .inl mru))] _ := hP.sub [0, 1, 2] rfl
        have hD9 : va_D A [(h, .inr (4, [.int mth, .int mtp, .int mbt, .int mmn, .ref a5, .int mrs, .ref a6, .long mlt, .long mlb, .long mht, .long mhb])), (a5, .inl (cI, 64, .inl mte)), (a6, .inl (cI, 64, .inl mru))] := hD.sub [0, 1, 2] (by decide) rfl
        rw [hQf]
        exact W.iret hx hb hr (fun t ht hW => ⟨⟨_, (), rfl, rfl, by rw [ht]; exact hP9, hD9⟩, hS.F ht⟩) hS.2.2 dX4_go_34
  have hl := lv_entry ([.ref h, .int p1, .int p2]) (n := 7) (Nat.le_of_ble_eq_true rfl)
  rw [lg_entry_eq]
  generalize (lg_sl ([.ref h, .int p1, .int p2]) ++ List.replicate (7 - (lg_sl ([.ref h, .int p1, .int p2])).length) Slot.unset).toArray = ls at hl ⊢
  have hl : lv_has ls 7 [(0, .ref h), (1, .int p1), (2, .int p2)] := hl
  unfold fX4_go at hf
  refine lv_aload_n hx hb dX4_go_0 rfl (lv_at hl 0 rfl) ?_
  refine lv_iconst (v := 0) hx hb dX4_go_1 (by decide) ?_
  refine va_put (D := G) (ci := 4) (v := .int 0) (ty := .int) (C := RX4) (T := TX4) (N := 11) hx hb hts hinX4 tyX4 tyX4_ok nmX4 hown hK.1 hP hD hS 0 rfl rfl 0 (by decide) w0 (fun _ h9 => h9) rfl (by decide +kernel) rfl rfl (Nat.le_of_ble_eq_true rfl) dX4_go_2 (fun H locs hP hD hS => ?_)
  have hP : va_P G vwCl [(h, .inr (4, [.int 0, .int mtp, .int mbt, .int mmn, .ref a5, .int mrs, .ref a6, .long mlt, .long mlb, .long mht, .long mhb])), (a5, .inl (cI, 64, .inl mte)), (a6, .inl (cI, 64, .inl mru))] H := hP
  have hD : va_D A [(h, .inr (4, [.int 0, .int mtp, .int mbt, .int mmn, .ref a5, .int mrs, .ref a6, .long mlt, .long mlb, .long mht, .long mhb])), (a5, .inl (cI, 64, .inl mte)), (a6, .inl (cI, 64, .inl mru))] := hD
  refine lv_iload_n hx hb dX4_go_5 rfl (lv_at hl 1 rfl) ?_
  refine lv_if_eq (tgt := 14) hx hb dX4_go_6 (by decide) (fun c6 => ?_) (fun c6 => ?_)
  · have hf := it_t c6 hf
    exact J14   0 mtp mbt mrs mru mlt mlb mht mhb p1 p2 _ _ _ hf hP hD hS (lv_sub hl [0, 1, 2] rfl)
  · have hf := it_f c6 hf
    refine lv_iload_n hx hb dX4_go_9 rfl (lv_at hl 1 rfl) ?_
    refine lv_iconst (v := 1) hx hb dX4_go_10 (by decide) ?_
    refine lv_icmp_ne (tgt := 33) hx hb dX4_go_11 (by decide) (fun c11 => ?_) (fun c11 => ?_)
    · have hf := it_f c11 hf
      refine lv_iconst (v := 0) hx hb dX4_go_33 (by decide) ?_
      refine qf_s (Qf := Qf) hf ?_
      have hP9 : va_P G vwCl [(h, .inr (4, [.int 0, .int mtp, .int mbt, .int mmn, .ref a5, .int mrs, .ref a6, .long mlt, .long mlb, .long mht, .long mhb])), (a5, .inl (cI, 64, .inl mte)), (a6, .inl (cI, 64, .inl mru))] _ := hP.sub [0, 1, 2] rfl
      have hD9 : va_D A [(h, .inr (4, [.int 0, .int mtp, .int mbt, .int mmn, .ref a5, .int mrs, .ref a6, .long mlt, .long mlb, .long mht, .long mhb])), (a5, .inl (cI, 64, .inl mte)), (a6, .inl (cI, 64, .inl mru))] := hD.sub [0, 1, 2] (by decide) rfl
      rw [hQf]
      exact W.iret hx hb hr (fun t ht hW => ⟨⟨_, (), rfl, rfl, by rw [ht]; exact hP9, hD9⟩, hS.F ht⟩) hS.2.2 dX4_go_34
    · have hf := it_t c11 hf
      exact J14   0 mtp mbt mrs mru mlt mlb mht mhb p1 p2 _ _ _ hf hP hD hS (lv_sub hl [0, 1, 2] rfl)
def fX4_up_J78 (mth : Int32) (mtp : Int32) (mbt : Int32) (mrs : Int32) (mru : Nat → Int32) (mlt : Int64) (mlb : Int64) (mht : Int64) (mhb : Int64) (x1 : Int32) (y1 : Int64) : Option (Int32 × Int32 × Int32 × Int32 × Int32 × (Nat → Int32) × Int64 × Int64 × Int64 × Int64) :=
  nm (Int64.toInt32 y1) fun v79 =>
  if x1 = 0 then
    nm (Int64.toInt32 mhb) fun v99 =>
    some (1, mth, v79, v99, mrs, mru, mlt, mlb, mht, mhb)
  else
    nm (Int64.toInt32 mlb) fun v99 =>
    some (1, mth, v79, v99, mrs, mru, mlt, mlb, mht, mhb)
def fX4_up_J61 (mth : Int32) (mtp : Int32) (mbt : Int32) (mrs : Int32) (mru : Nat → Int32) (mlt : Int64) (mlb : Int64) (mht : Int64) (mhb : Int64) (y0 : Int32) : Option (Int32 × Int32 × Int32 × Int32 × Int32 × (Nat → Int32) × Int64 × Int64 × Int64 × Int64) :=
  if y0 = 0 then
    fX4_up_J78   mth mtp mbt mrs mru mlt mlb mht mhb y0 mht
  else
    fX4_up_J78   mth mtp mbt mrs mru mlt mlb mht mhb y0 mlt
def fX4_up_J30 (mth : Int32) (mtp : Int32) (mbt : Int32) (mrs : Int32) (mru : Nat → Int32) (mlt : Int64) (mlb : Int64) (mht : Int64) (mhb : Int64) : Option (Int32 × Int32 × Int32 × Int32 × Int32 × (Nat → Int32) × Int64 × Int64 × Int64 × Int64) :=
  bd6 (fX4_walk mtp mbt mrs mru mlt mlb mht mhb) fun mrs_31 mru_31 mlt_31 mlb_31 mht_31 mhb_31 =>
  if (lg_cmp (mlt_31 + mlb_31) (mht_31 + mhb_31)) ≤ 0 then
    fX4_up_J61   mth mtp mbt mrs_31 mru_31 mlt_31 mlb_31 mht_31 mhb_31 0
  else
    fX4_up_J61   mth mtp mbt mrs_31 mru_31 mlt_31 mlb_31 mht_31 mhb_31 1
def fX4_up (mth : Int32) (mtp : Int32) (mbt : Int32) (mrs : Int32) (mru : Nat → Int32) (mlt : Int64) (mlb : Int64) (mht : Int64) (mhb : Int64) : Option (Int32 × Int32 × Int32 × Int32 × Int32 × (Nat → Int32) × Int64 × Int64 × Int64 × Int64) :=
  if mtp = 0 then
    some (0, 0, mtp, mbt, mrs, mru, mlt, mlb, mht, mhb)
  else
    if mtp = 1 then
      if mbt = 1 then
        some (0, 0, mtp, mbt, mrs, mru, mlt, mlb, mht, mhb)
      else
        fX4_up_J30   0 mtp mbt mrs mru mlt mlb mht mhb
    else
      fX4_up_J30   0 mtp mbt mrs mru mlt mlb mht mhb
set_option maxHeartbeats 4000000 in
set_option maxRecDepth 100000 in
theorem zX4_up (l : Launch) (G : va_G) (cI : ClassId) (sz : Nat) (h a5 a6 : Nat) (mth : Int32) (mtp : Int32) (mbt : Int32) (mmn : Int32) (mte : Nat → Int32) (mrs : Int32) (mru : Nat → Int32) (mlt : Int64) (mlb : Int64) (mht : Int64) (mhb : Int64) {rv : Int32} {o_mth : Int32} {o_mtp : Int32} {o_mbt : Int32} {o_mrs : Int32} {o_mru : Nat → Int32} {o_mlt : Int64} {o_mlb : Int64} {o_mht : Int64} {o_mhb : Int64} (hf : fX4_up mth mtp mbt mrs mru mlt mlb mht mhb = some (rv, o_mth, o_mtp, o_mbt, o_mrs, o_mru, o_mlt, o_mlb, o_mht, o_mhb)) : mMi l yX4_up wsX4_up ({ frames := 2, cells := 0, slots := 0, locals := 52 }) [.ref h] G cI [(h, .inr (4, [.int mth, .int mtp, .int mbt, .int mmn, .ref a5, .int mrs, .ref a6, .long mlt, .long mlb, .long mht, .long mhb])), (a5, .inl (cI, 64, .inl mte)), (a6, .inl (cI, 64, .inl mru))] sz rv [(h, .inr (4, [.int o_mth, .int o_mtp, .int o_mbt, .int mmn, .ref a5, .int o_mrs, .ref a6, .long o_mlt, .long o_mlb, .long o_mht, .long o_mhb])), (a5, .inl (cI, 64, .inl mte)), (a6, .inl (cI, 64, .inl o_mru))] 0 0 := by
  refine Met.ofW (cc := cX4_up) (maxL := 2) (ret := (some .int)) (by decide) rfl ?_
  intro p e s m args below meth c s₁ B hml hv
  obtain ⟨rfl, hsz, hP, hK, hD0⟩ := hv
  have hx := B.exec
  have hb := B.bytes
  have hr := B.returns
  have hts := atoms_spec (ws := wsX4_up) B.pre
  have hown : s.vm.findClass RX4 = some m.cls := findClass_of_methodNamed B.named
  have hlocks := B.notSynchronized
  subst hsz
  have hD := hD0.self (sz := s.heap.size)
  generalize hAe : va_A [(h, .inr (4, [.int mth, .int mtp, .int mbt, .int mmn, .ref a5, .int mrs, .ref a6, .long mlt, .long mlb, .long mht, .long mhb])), (a5, .inl (cI, 64, .inl mte)), (a6, .inl (cI, 64, .inl mru))] s.heap.size = A at hD ⊢
  have hA : ∀ q : Nat, s.heap.size ≤ q → A q := fun q h => by rw [← hAe]; exact Or.inr h
  have hS : va_S A s.heap s.heap [] := va_S.rf
  have w0 := hts (.fieldLink RX4 23 "SternDeskModel" "thrown" "I") (by decide +kernel)
  have hinX4 : ∀ w ∈ u_ws RX4 TX4 11, w ∈ wsX4_up := by decide +kernel
  have w2 := hts (.fieldLink RX4 7 "SternDeskModel" "top" "I") (by decide +kernel)
  have w3 := hts (.fieldLink RX4 13 "SternDeskModel" "bottom" "I") (by decide +kernel)
  have w4 := hts (.fieldLink RX4 49 "SternDeskModel" "lowTop" "J") (by decide +kernel)
  have w5 := hts (.fieldLink RX4 53 "SternDeskModel" "lowBottom" "J") (by decide +kernel)
  have w6 := hts (.fieldLink RX4 56 "SternDeskModel" "highTop" "J") (by decide +kernel)
  have w7 := hts (.fieldLink RX4 59 "SternDeskModel" "highBottom" "J") (by decide +kernel)
  obtain ⟨Qf, hQf⟩ : ∃ f : (Int32 × Int32 × Int32 × Int32 × Int32 × (Nat → Int32) × Int64 × Int64 × Int64 × Int64) → State → Prop, f = fun z => MQ below (va_Qi (fun (r : Int32) (_ : Unit) => r = z.1) (fun _ t => va_P G vwCl [(h, .inr (4, [.int z.2.1, .int z.2.2.1, .int z.2.2.2.1, .int mmn, .ref a5, .int z.2.2.2.2.1, .ref a6, .long z.2.2.2.2.2.2.1, .long z.2.2.2.2.2.2.2.1, .long z.2.2.2.2.2.2.2.2.1, .long z.2.2.2.2.2.2.2.2.2])), (a5, .inl (cI, 64, .inl mte)), (a6, .inl (cI, 64, .inl z.2.2.2.2.2.1))] t.heap ∧ va_D A [(h, .inr (4, [.int z.2.1, .int z.2.2.1, .int z.2.2.2.1, .int mmn, .ref a5, .int z.2.2.2.2.1, .ref a6, .long z.2.2.2.2.2.2.1, .long z.2.2.2.2.2.2.2.1, .long z.2.2.2.2.2.2.2.2.1, .long z.2.2.2.2.2.2.2.2.2])), (a5, .inl (cI, 64, .inl mte)), (a6, .inl (cI, 64, .inl z.2.2.2.2.2.1))]) A) ([.ref h].toArray) s 0 0 A := ⟨_, rfl⟩
  suffices hgo : W p l e (headSpec wsX4_up ({ frames := 2, cells := 0, slots := 0, locals := 52 })).room s m ([.ref h].toArray) below meth c s.heap [] 0 0 (Qf (rv, o_mth, o_mtp, o_mbt, o_mrs, o_mru, o_mlt, o_mlb, o_mht, o_mhb)) (entryFrame m ([.ref h].toArray) 2) by rw [hQf] at hgo; exact hgo
  have J78 : ∀ (mth : Int32) (mtp : Int32) (mbt : Int32) (mrs : Int32) (mru : Nat → Int32) (mlt : Int64) (mlb : Int64) (mht : Int64) (mhb : Int64) (x1 : Int32) (y1 : Int64) (H : Heap) (locs : List Loc) (ls : Array Slot), fX4_up_J78   mth mtp mbt mrs mru mlt mlb mht mhb x1 y1 = some (rv, o_mth, o_mtp, o_mbt, o_mrs, o_mru, o_mlt, o_mlb, o_mht, o_mhb) → va_P G vwCl [(h, .inr (4, [.int mth, .int mtp, .int mbt, .int mmn, .ref a5, .int mrs, .ref a6, .long mlt, .long mlb, .long mht, .long mhb])), (a5, .inl (cI, 64, .inl mte)), (a6, .inl (cI, 64, .inl mru))] H → va_D A [(h, .inr (4, [.int mth, .int mtp, .int mbt, .int mmn, .ref a5, .int mrs, .ref a6, .long mlt, .long mlb, .long mht, .long mhb])), (a5, .inl (cI, 64, .inl mte)), (a6, .inl (cI, 64, .inl mru))] → va_S A s.heap H locs → lv_has ls 2 [(0, .ref h), (1, .int x1)] → W p l e (headSpec wsX4_up ({ frames := 2, cells := 0, slots := 0, locals := 52 })).room s m ([.ref h].toArray) below meth c H locs 0 0 (Qf (rv, o_mth, o_mtp, o_mbt, o_mrs, o_mru, o_mlt, o_mlb, o_mht, o_mhb)) (F0 m 78 ls [.long y1, .ref h]) := by
    intro   mth mtp mbt mrs mru mlt mlb mht mhb x1 y1 H locs ls hf hP hD hS hl
    unfold fX4_up_J78 at hf
    refine lv_l2i hx hb dX4_up_78 rfl ?_
    refine lv_topi (fun v79 ev79 => ?_)
    have hf := nm_s ev79 hf
    refine va_put (D := G) (ci := 4) (v := .int v79) (ty := .int) (C := RX4) (T := TX4) (N := 11) hx hb hts hinX4 tyX4 tyX4_ok nmX4 hown hK.1 hP hD hS 0 rfl rfl 1 (by decide) w2 (fun _ h9 => h9) rfl (by decide +kernel) rfl rfl (Nat.le_of_ble_eq_true rfl) dX4_up_79 (fun H locs hP hD hS => ?_)
    have hP : va_P G vwCl [(h, .inr (4, [.int mth, .int v79, .int mbt, .int mmn, .ref a5, .int mrs, .ref a6, .long mlt, .long mlb, .long mht, .long mhb])), (a5, .inl (cI, 64, .inl mte)), (a6, .inl (cI, 64, .inl mru))] H := hP
    have hD : va_D A [(h, .inr (4, [.int mth, .int v79, .int mbt, .int mmn, .ref a5, .int mrs, .ref a6, .long mlt, .long mlb, .long mht, .long mhb])), (a5, .inl (cI, 64, .inl mte)), (a6, .inl (cI, 64, .inl mru))] := hD
    refine lv_aload_n hx hb dX4_up_82 rfl (lv_at hl 0 rfl) ?_
    refine lv_iload_n hx hb dX4_up_83 rfl (lv_at hl 1 rfl) ?_
    refine lv_if_eq (tgt := 94) hx hb dX4_up_84 (by decide) (fun c84 => ?_) (fun c84 => ?_)
    · have hf := it_t c84 hf
      refine lv_aload_n hx hb dX4_up_94 rfl (lv_at hl 0 rfl) ?_
      refine va_get (D := G) (ci := 4) (v := .long mhb) (C := RX4) (T := TX4) (N := 11) hx hb hts hinX4 hown hK.1 hP 0 rfl rfl 10 (by decide) w7 (fun _ h9 => h9) rfl dX4_up_95 ?_
      refine lv_l2i hx hb dX4_up_98 rfl ?_
      refine lv_topi (fun v99 ev99 => ?_)
      have hf := nm_s ev99 hf
      refine va_put (D := G) (ci := 4) (v := .int v99) (ty := .int) (C := RX4) (T := TX4) (N := 11) hx hb hts hinX4 tyX4 tyX4_ok nmX4 hown hK.1 hP hD hS 0 rfl rfl 2 (by decide) w3 (fun _ h9 => h9) rfl (by decide +kernel) rfl rfl (Nat.le_of_ble_eq_true rfl) dX4_up_99 (fun H locs hP hD hS => ?_)
      have hP : va_P G vwCl [(h, .inr (4, [.int mth, .int v79, .int v99, .int mmn, .ref a5, .int mrs, .ref a6, .long mlt, .long mlb, .long mht, .long mhb])), (a5, .inl (cI, 64, .inl mte)), (a6, .inl (cI, 64, .inl mru))] H := hP
      have hD : va_D A [(h, .inr (4, [.int mth, .int v79, .int v99, .int mmn, .ref a5, .int mrs, .ref a6, .long mlt, .long mlb, .long mht, .long mhb])), (a5, .inl (cI, 64, .inl mte)), (a6, .inl (cI, 64, .inl mru))] := hD
      refine lv_iconst (v := 1) hx hb dX4_up_102 (by decide) ?_
      refine qf_s (Qf := Qf) hf ?_
      have hP9 : va_P G vwCl [(h, .inr (4, [.int mth, .int v79, .int v99, .int mmn, .ref a5, .int mrs, .ref a6, .long mlt, .long mlb, .long mht, .long mhb])), (a5, .inl (cI, 64, .inl mte)), (a6, .inl (cI, 64, .inl mru))] _ := hP.sub [0, 1, 2] rfl
      have hD9 : va_D A [(h, .inr (4, [.int mth, .int v79, .int v99, .int mmn, .ref a5, .int mrs, .ref a6, .long mlt, .long mlb, .long mht, .long mhb])), (a5, .inl (cI, 64, .inl mte)), (a6, .inl (cI, 64, .inl mru))] := hD.sub [0, 1, 2] (by decide) rfl
      rw [hQf]
      exact W.iret hx hb hr (fun t ht hW => ⟨⟨_, (), rfl, rfl, by rw [ht]; exact hP9, hD9⟩, hS.F ht⟩) hS.2.2 dX4_up_103
    · have hf := it_f c84 hf
      refine lv_aload_n hx hb dX4_up_87 rfl (lv_at hl 0 rfl) ?_
      refine va_get (D := G) (ci := 4) (v := .long mlb) (C := RX4) (T := TX4) (N := 11) hx hb hts hinX4 hown hK.1 hP 0 rfl rfl 8 (by decide) w5 (fun _ h9 => h9) rfl dX4_up_88 ?_
      refine lv_goto (tgt := 98) hx hb dX4_up_91 (by decide) ?_
      refine lv_l2i hx hb dX4_up_98 rfl ?_
      refine lv_topi (fun v99 ev99 => ?_)
      have hf := nm_s ev99 hf
      refine va_put (D := G) (ci := 4) (v := .int v99) (ty := .int) (C := RX4) (T := TX4) (N := 11) hx hb hts hinX4 tyX4 tyX4_ok nmX4 hown hK.1 hP hD hS 0 rfl rfl 2 (by decide) w3 (fun _ h9 => h9) rfl (by decide +kernel) rfl rfl (Nat.le_of_ble_eq_true rfl) dX4_up_99 (fun H locs hP hD hS => ?_)
      have hP : va_P G vwCl [(h, .inr (4, [.int mth, .int v79, .int v99, .int mmn, .ref a5, .int mrs, .ref a6, .long mlt, .long mlb, .long mht, .long mhb])), (a5, .inl (cI, 64, .inl mte)), (a6, .inl (cI, 64, .inl mru))] H := hP
      have hD : va_D A [(h, .inr (4, [.int mth, .int v79, .int v99, .int mmn, .ref a5, .int mrs, .ref a6, .long mlt, .long mlb, .long mht, .long mhb])), (a5, .inl (cI, 64, .inl mte)), (a6, .inl (cI, 64, .inl mru))] := hD
      refine lv_iconst (v := 1) hx hb dX4_up_102 (by decide) ?_
      refine qf_s (Qf := Qf) hf ?_
      have hP9 : va_P G vwCl [(h, .inr (4, [.int mth, .int v79, .int v99, .int mmn, .ref a5, .int mrs, .ref a6, .long mlt, .long mlb, .long mht, .long mhb])), (a5, .inl (cI, 64, .inl mte)), (a6, .inl (cI, 64, .inl mru))] _ := hP.sub [0, 1, 2] rfl
      have hD9 : va_D A [(h, .inr (4, [.int mth, .int v79, .int v99, .int mmn, .ref a5, .int mrs, .ref a6, .long mlt, .long mlb, .long mht, .long mhb])), (a5, .inl (cI, 64, .inl mte)), (a6, .inl (cI, 64, .inl mru))] := hD.sub [0, 1, 2] (by decide) rfl
      rw [hQf]
      exact W.iret hx hb hr (fun t ht hW => ⟨⟨_, (), rfl, rfl, by rw [ht]; exact hP9, hD9⟩, hS.F ht⟩) hS.2.2 dX4_up_103
  have J61 : ∀ (mth : Int32) (mtp : Int32) (mbt : Int32) (mrs : Int32) (mru : Nat → Int32) (mlt : Int64) (mlb : Int64) (mht : Int64) (mhb : Int64) (y0 : Int32) (H : Heap) (locs : List Loc) (ls : Array Slot), fX4_up_J61   mth mtp mbt mrs mru mlt mlb mht mhb y0 = some (rv, o_mth, o_mtp, o_mbt, o_mrs, o_mru, o_mlt, o_mlb, o_mht, o_mhb) → va_P G vwCl [(h, .inr (4, [.int mth, .int mtp, .int mbt, .int mmn, .ref a5, .int mrs, .ref a6, .long mlt, .long mlb, .long mht, .long mhb])), (a5, .inl (cI, 64, .inl mte)), (a6, .inl (cI, 64, .inl mru))] H → va_D A [(h, .inr (4, [.int mth, .int mtp, .int mbt, .int mmn, .ref a5, .int mrs, .ref a6, .long mlt, .long mlb, .long mht, .long mhb])), (a5, .inl (cI, 64, .inl mte)), (a6, .inl (cI, 64, .inl mru))] → va_S A s.heap H locs → lv_has ls 2 [(0, .ref h)] → W p l e (headSpec wsX4_up ({ frames := 2, cells := 0, slots := 0, locals := 52 })).room s m ([.ref h].toArray) below meth c H locs 0 0 (Qf (rv, o_mth, o_mtp, o_mbt, o_mrs, o_mru, o_mlt, o_mlb, o_mht, o_mhb)) (F0 m 61 ls [.int y0]) := by
    intro   mth mtp mbt mrs mru mlt mlb mht mhb y0 H locs ls hf hP hD hS hl
    unfold fX4_up_J61 at hf
    refine lv_istore_n (lv' := [(1, .int y0), (0, .ref h)]) hx hb dX4_up_61 rfl hl (by decide) rfl (fun ls hl => ?_)
    refine lv_aload_n hx hb dX4_up_62 rfl (lv_at hl 1 rfl) ?_
    refine lv_iload_n hx hb dX4_up_63 rfl (lv_at hl 0 rfl) ?_
    refine lv_if_eq (tgt := 74) hx hb dX4_up_64 (by decide) (fun c64 => ?_) (fun c64 => ?_)
    · have hf := it_t c64 hf
      refine lv_aload_n hx hb dX4_up_74 rfl (lv_at hl 1 rfl) ?_
      refine va_get (D := G) (ci := 4) (v := .long mht) (C := RX4) (T := TX4) (N := 11) hx hb hts hinX4 hown hK.1 hP 0 rfl rfl 9 (by decide) w6 (fun _ h9 => h9) rfl dX4_up_75 ?_
      exact J78   mth mtp mbt mrs mru mlt mlb mht mhb y0 mht _ _ _ hf hP hD hS (lv_sub hl [1, 0] rfl)
    · have hf := it_f c64 hf
      refine lv_aload_n hx hb dX4_up_67 rfl (lv_at hl 1 rfl) ?_
      refine va_get (D := G) (ci := 4) (v := .long mlt) (C := RX4) (T := TX4) (N := 11) hx hb hts hinX4 hown hK.1 hP 0 rfl rfl 7 (by decide) w4 (fun _ h9 => h9) rfl dX4_up_68 ?_
      refine lv_goto (tgt := 78) hx hb dX4_up_71 (by decide) ?_
      exact J78   mth mtp mbt mrs mru mlt mlb mht mhb y0 mlt _ _ _ hf hP hD hS (lv_sub hl [1, 0] rfl)
  have J30 : ∀ (mth : Int32) (mtp : Int32) (mbt : Int32) (mrs : Int32) (mru : Nat → Int32) (mlt : Int64) (mlb : Int64) (mht : Int64) (mhb : Int64) (H : Heap) (locs : List Loc) (ls : Array Slot), fX4_up_J30   mth mtp mbt mrs mru mlt mlb mht mhb = some (rv, o_mth, o_mtp, o_mbt, o_mrs, o_mru, o_mlt, o_mlb, o_mht, o_mhb) → va_P G vwCl [(h, .inr (4, [.int mth, .int mtp, .int mbt, .int mmn, .ref a5, .int mrs, .ref a6, .long mlt, .long mlb, .long mht, .long mhb])), (a5, .inl (cI, 64, .inl mte)), (a6, .inl (cI, 64, .inl mru))] H → va_D A [(h, .inr (4, [.int mth, .int mtp, .int mbt, .int mmn, .ref a5, .int mrs, .ref a6, .long mlt, .long mlb, .long mht, .long mhb])), (a5, .inl (cI, 64, .inl mte)), (a6, .inl (cI, 64, .inl mru))] → va_S A s.heap H locs → lv_has ls 2 [(0, .ref h)] → W p l e (headSpec wsX4_up ({ frames := 2, cells := 0, slots := 0, locals := 52 })).room s m ([.ref h].toArray) below meth c H locs 0 0 (Qf (rv, o_mth, o_mtp, o_mbt, o_mrs, o_mru, o_mlt, o_mlb, o_mht, o_mhb)) (F0 m 30 ls []) := by
    intro   mth mtp mbt mrs mru mlt mlb mht mhb H locs ls hf hP hD hS hl
    unfold fX4_up_J30 at hf
    refine lv_aload_n hx hb dX4_up_30 rfl (lv_at hl 0 rfl) ?_
    obtain ⟨mrs_31, mru_31, mlt_31, mlb_31, mht_31, mhb_31, hv31, hf⟩ := bd6_s hf
    refine mcVv (As := []) (rest := []) (wr := []) (wc := [(h, .inr (4, [.int mth, .int mtp, .int mbt, .int mmn, .ref a5, .int mrs, .ref a6, .long mlt, .long mlb, .long mht, .long mhb])), (a5, .inl (cI, 64, .inl mte)), (a6, .inl (cI, 64, .inl mru))]) ⟨hx, hb, hml, hown, hts⟩ (zX4_walk l G cI _ h a5 a6 mth mtp mbt mmn mte mrs mru mlt mlb mht mhb  hv31) (cwV 0 hts gX4_up_X4_walk rfl rfl rfl (by decide +kernel) ⟨Nat.le_of_ble_eq_true rfl, Nat.le_of_ble_eq_true rfl⟩) hK hP hD [0, 1, 2] [] rfl rfl rfl (by decide) (by decide) (by decide) rfl rfl rfl hl.1 rfl (Nat.le_of_ble_eq_true rfl) dX4_up_31 ⟨Nat.le_of_ble_eq_true rfl, Nat.le_of_ble_eq_true rfl⟩ hS hA (fun H locs hP hD hz31 hS => ?_)
    have hP : va_P G vwCl [(h, .inr (4, [.int mth, .int mtp, .int mbt, .int mmn, .ref a5, .int mrs_31, .ref a6, .long mlt_31, .long mlb_31, .long mht_31, .long mhb_31])), (a5, .inl (cI, 64, .inl mte)), (a6, .inl (cI, 64, .inl mru_31))] H := hP
    have hD : va_D A [(h, .inr (4, [.int mth, .int mtp, .int mbt, .int mmn, .ref a5, .int mrs_31, .ref a6, .long mlt_31, .long mlb_31, .long mht_31, .long mhb_31])), (a5, .inl (cI, 64, .inl mte)), (a6, .inl (cI, 64, .inl mru_31))] := hD
    refine lv_aload_n hx hb dX4_up_34 rfl (lv_at hl 0 rfl) ?_
    refine va_get (D := G) (ci := 4) (v := .long mlt_31) (C := RX4) (T := TX4) (N := 11) hx hb hts hinX4 hown hK.1 hP 0 rfl rfl 7 (by decide) w4 (fun _ h9 => h9) rfl dX4_up_35 ?_
    refine lv_aload_n hx hb dX4_up_38 rfl (lv_at hl 0 rfl) ?_
    refine va_get (D := G) (ci := 4) (v := .long mlb_31) (C := RX4) (T := TX4) (N := 11) hx hb hts hinX4 hown hK.1 hP 0 rfl rfl 8 (by decide) w5 (fun _ h9 => h9) rfl dX4_up_39 ?_
    refine lv_ladd hx hb dX4_up_42 ?_
    refine lv_aload_n hx hb dX4_up_43 rfl (lv_at hl 0 rfl) ?_
    refine va_get (D := G) (ci := 4) (v := .long mht_31) (C := RX4) (T := TX4) (N := 11) hx hb hts hinX4 hown hK.1 hP 0 rfl rfl 9 (by decide) w6 (fun _ h9 => h9) rfl dX4_up_44 ?_
    refine lv_aload_n hx hb dX4_up_47 rfl (lv_at hl 0 rfl) ?_
    refine va_get (D := G) (ci := 4) (v := .long mhb_31) (C := RX4) (T := TX4) (N := 11) hx hb hts hinX4 hown hK.1 hP 0 rfl rfl 10 (by decide) w7 (fun _ h9 => h9) rfl dX4_up_48 ?_
    refine lv_ladd hx hb dX4_up_51 ?_
    refine W.lcmp hx hb dX4_up_52 ?_
    refine lv_if_le (tgt := 60) hx hb dX4_up_53 (by decide) (fun c53 => ?_) (fun c53 => ?_)
    · have hf := it_t c53 hf
      refine lv_iconst (v := 0) hx hb dX4_up_60 (by decide) ?_
      exact J61   mth mtp mbt mrs_31 mru_31 mlt_31 mlb_31 mht_31 mhb_31 0 _ _ _ hf hP hD hS (lv_sub hl [0] rfl)
    · have hf := it_f c53 hf
      refine lv_iconst (v := 1) hx hb dX4_up_56 (by decide) ?_
      refine lv_goto (tgt := 61) hx hb dX4_up_57 (by decide) ?_
      exact J61   mth mtp mbt mrs_31 mru_31 mlt_31 mlb_31 mht_31 mhb_31 1 _ _ _ hf hP hD hS (lv_sub hl [0] rfl)
  have hl := lv_entry ([.ref h]) (n := 2) (Nat.le_of_ble_eq_true rfl)
  rw [lg_entry_eq]
  generalize (lg_sl ([.ref h]) ++ List.replicate (2 - (lg_sl ([.ref h])).length) Slot.unset).toArray = ls at hl ⊢
  have hl : lv_has ls 2 [(0, .ref h)] := hl
  unfold fX4_up at hf
  refine lv_aload_n hx hb dX4_up_0 rfl (lv_at hl 0 rfl) ?_
  refine lv_iconst (v := 0) hx hb dX4_up_1 (by decide) ?_
  refine va_put (D := G) (ci := 4) (v := .int 0) (ty := .int) (C := RX4) (T := TX4) (N := 11) hx hb hts hinX4 tyX4 tyX4_ok nmX4 hown hK.1 hP hD hS 0 rfl rfl 0 (by decide) w0 (fun _ h9 => h9) rfl (by decide +kernel) rfl rfl (Nat.le_of_ble_eq_true rfl) dX4_up_2 (fun H locs hP hD hS => ?_)
  have hP : va_P G vwCl [(h, .inr (4, [.int 0, .int mtp, .int mbt, .int mmn, .ref a5, .int mrs, .ref a6, .long mlt, .long mlb, .long mht, .long mhb])), (a5, .inl (cI, 64, .inl mte)), (a6, .inl (cI, 64, .inl mru))] H := hP
  have hD : va_D A [(h, .inr (4, [.int 0, .int mtp, .int mbt, .int mmn, .ref a5, .int mrs, .ref a6, .long mlt, .long mlb, .long mht, .long mhb])), (a5, .inl (cI, 64, .inl mte)), (a6, .inl (cI, 64, .inl mru))] := hD
  refine lv_aload_n hx hb dX4_up_5 rfl (lv_at hl 0 rfl) ?_
  refine va_get (D := G) (ci := 4) (v := .int mtp) (C := RX4) (T := TX4) (N := 11) hx hb hts hinX4 hown hK.1 hP 0 rfl rfl 1 (by decide) w2 (fun _ h9 => h9) rfl dX4_up_6 ?_
  refine lv_if_eq (tgt := 28) hx hb dX4_up_9 (by decide) (fun c9 => ?_) (fun c9 => ?_)
  · have hf := it_t c9 hf
    refine lv_iconst (v := 0) hx hb dX4_up_28 (by decide) ?_
    refine qf_s (Qf := Qf) hf ?_
    have hP9 : va_P G vwCl [(h, .inr (4, [.int 0, .int mtp, .int mbt, .int mmn, .ref a5, .int mrs, .ref a6, .long mlt, .long mlb, .long mht, .long mhb])), (a5, .inl (cI, 64, .inl mte)), (a6, .inl (cI, 64, .inl mru))] _ := hP.sub [0, 1, 2] rfl
    have hD9 : va_D A [(h, .inr (4, [.int 0, .int mtp, .int mbt, .int mmn, .ref a5, .int mrs, .ref a6, .long mlt, .long mlb, .long mht, .long mhb])), (a5, .inl (cI, 64, .inl mte)), (a6, .inl (cI, 64, .inl mru))] := hD.sub [0, 1, 2] (by decide) rfl
    rw [hQf]
    exact W.iret hx hb hr (fun t ht hW => ⟨⟨_, (), rfl, rfl, by rw [ht]; exact hP9, hD9⟩, hS.F ht⟩) hS.2.2 dX4_up_29
  · have hf := it_f c9 hf
    refine lv_aload_n hx hb dX4_up_12 rfl (lv_at hl 0 rfl) ?_
    refine va_get (D := G) (ci := 4) (v := .int mtp) (C := RX4) (T := TX4) (N := 11) hx hb hts hinX4 hown hK.1 hP 0 rfl rfl 1 (by decide) w2 (fun _ h9 => h9) rfl dX4_up_13 ?_
    refine lv_iconst (v := 1) hx hb dX4_up_16 (by decide) ?_
    refine lv_icmp_ne (tgt := 30) hx hb dX4_up_17 (by decide) (fun c17 => ?_) (fun c17 => ?_)
    · have hf := it_f c17 hf
      exact J30   0 mtp mbt mrs mru mlt mlb mht mhb _ _ _ hf hP hD hS (lv_sub hl [0] rfl)
    · have hf := it_t c17 hf
      refine lv_aload_n hx hb dX4_up_20 rfl (lv_at hl 0 rfl) ?_
      refine va_get (D := G) (ci := 4) (v := .int mbt) (C := RX4) (T := TX4) (N := 11) hx hb hts hinX4 hown hK.1 hP 0 rfl rfl 2 (by decide) w3 (fun _ h9 => h9) rfl dX4_up_21 ?_
      refine lv_iconst (v := 1) hx hb dX4_up_24 (by decide) ?_
      refine lv_icmp_ne (tgt := 30) hx hb dX4_up_25 (by decide) (fun c25 => ?_) (fun c25 => ?_)
      · have hf := it_f c25 hf
        exact J30   0 mtp mbt mrs mru mlt mlb mht mhb _ _ _ hf hP hD hS (lv_sub hl [0] rfl)
      · have hf := it_t c25 hf
        refine lv_iconst (v := 0) hx hb dX4_up_28 (by decide) ?_
        refine qf_s (Qf := Qf) hf ?_
        have hP9 : va_P G vwCl [(h, .inr (4, [.int 0, .int mtp, .int mbt, .int mmn, .ref a5, .int mrs, .ref a6, .long mlt, .long mlb, .long mht, .long mhb])), (a5, .inl (cI, 64, .inl mte)), (a6, .inl (cI, 64, .inl mru))] _ := hP.sub [0, 1, 2] rfl
        have hD9 : va_D A [(h, .inr (4, [.int 0, .int mtp, .int mbt, .int mmn, .ref a5, .int mrs, .ref a6, .long mlt, .long mlb, .long mht, .long mhb])), (a5, .inl (cI, 64, .inl mte)), (a6, .inl (cI, 64, .inl mru))] := hD.sub [0, 1, 2] (by decide) rfl
        rw [hQf]
        exact W.iret hx hb hr (fun t ht hW => ⟨⟨_, (), rfl, rfl, by rw [ht]; exact hP9, hD9⟩, hS.F ht⟩) hS.2.2 dX4_up_29

def fX3_take (qs : Nat → Int32) (ts : Nat → Int32) (bs : Nat → Int32) (cn : Int32) (p1 : Int32) (p2 : Int32) : Option ((Nat → Int32) × (Nat → Int32) × (Nat → Int32) × Int32) :=
  bd1 (fX3_isWithin p1 0 100000) fun r4 =>
  if r4 = 0 then
    none
  else
    bd1 (fX3_isWithin p2 1 100000) fun r14 =>
    if r14 = 0 then
      none
    else
      bd4 (fX0_expand qs ts bs cn p1 p2) fun qs_36 ts_36 bs_36 cn_36 =>
      some (qs_36, ts_36, bs_36, cn_36)
set_option maxHeartbeats 4000000 in
set_option maxRecDepth 100000 in
theorem zX3_take (l : Launch) (G : va_G) (cI : ClassId) (sz : Nat) (h e0 a1 a2 a3 r0 a4 : Nat) (qs : Nat → Int32) (ts : Nat → Int32) (bs : Nat → Int32) (cn : Int32) (mo : Nat → Int32) (p1 : Int32) (p2 : Int32) {o_qs : Nat → Int32} {o_ts : Nat → Int32} {o_bs : Nat → Int32} {o_cn : Int32} (hf : fX3_take qs ts bs cn p1 p2 = some (o_qs, o_ts, o_bs, o_cn)) : mMv l yX3_take wsX3_take ({ frames := 3, cells := 0, slots := 0, locals := 70 }) [.ref h, .int p1, .int p2] G cI [(h, .inr (3, [.ref e0, .ref r0])), (e0, .inr (0, [.ref a1, .ref a2, .ref a3, .int cn])), (a1, .inl (cI, 32, .inl qs)), (a2, .inl (cI, 33, .inl ts)), (a3, .inl (cI, 33, .inl bs)), (r0, .inr (2, [.ref a4])), (a4, .inl (cI, 201, .inl mo))] sz [(h, .inr (3, [.ref e0, .ref r0])), (e0, .inr (0, [.ref a1, .ref a2, .ref a3, .int o_cn])), (a1, .inl (cI, 32, .inl o_qs)), (a2, .inl (cI, 33, .inl o_ts)), (a3, .inl (cI, 33, .inl o_bs)), (r0, .inr (2, [.ref a4])), (a4, .inl (cI, 201, .inl mo))] 0 0 := by
  refine Met.ofW (cc := cX3_take) (maxL := 3) (ret := none) (by decide) rfl ?_
  intro p e s m args below meth c s₁ B hml hv
  obtain ⟨rfl, hsz, hP, hK, hD0⟩ := hv
  have hx := B.exec
  have hb := B.bytes
  have hr := B.returns
  have hts := atoms_spec (ws := wsX3_take) B.pre
  have hown : s.vm.findClass RX3 = some m.cls := findClass_of_methodNamed B.named
  have hlocks := B.notSynchronized
  subst hsz
  have hD := hD0.self (sz := s.heap.size)
  generalize hAe : va_A [(h, .inr (3, [.ref e0, .ref r0])), (e0, .inr (0, [.ref a1, .ref a2, .ref a3, .int cn])), (a1, .inl (cI, 32, .inl qs)), (a2, .inl (cI, 33, .inl ts)), (a3, .inl (cI, 33, .inl bs)), (r0, .inr (2, [.ref a4])), (a4, .inl (cI, 201, .inl mo))] s.heap.size = A at hD ⊢
  have hA : ∀ q : Nat, s.heap.size ≤ q → A q := fun q h => by rw [← hAe]; exact Or.inr h
  have hS : va_S A s.heap s.heap [] := va_S.rf
  have w0 := hts (.constant RX3 27 (100000)) (by decide +kernel)
  have w1 := hts (.fieldLink RX3 10 "SternDesk" "hand" "LSternDesk$Expansion;") (by decide +kernel)
  have hinX3 : ∀ w ∈ u_ws RX3 TX3 2, w ∈ wsX3_take := by decide +kernel
  obtain ⟨Qf, hQf⟩ : ∃ f : ((Nat → Int32) × (Nat → Int32) × (Nat → Int32) × Int32) → State → Prop, f = fun z => MQ below (va_Qv (fun (_ : Unit) => True) (fun _ t => va_P G vwCl [(h, .inr (3, [.ref e0, .ref r0])), (e0, .inr (0, [.ref a1, .ref a2, .ref a3, .int z.2.2.2])), (a1, .inl (cI, 32, .inl z.1)), (a2, .inl (cI, 33, .inl z.2.1)), (a3, .inl (cI, 33, .inl z.2.2.1)), (r0, .inr (2, [.ref a4])), (a4, .inl (cI, 201, .inl mo))] t.heap ∧ va_D A [(h, .inr (3, [.ref e0, .ref r0])), (e0, .inr (0, [.ref a1, .ref a2, .ref a3, .int z.2.2.2])), (a1, .inl (cI, 32, .inl z.1)), (a2, .inl (cI, 33, .inl z.2.1)), (a3, .inl (cI, 33, .inl z.2.2.1)), (r0, .inr (2, [.ref a4])), (a4, .inl (cI, 201, .inl mo))]) A) ([.ref h, .int p1, .int p2].toArray) s 0 0 A := ⟨_, rfl⟩
  suffices hgo : W p l e (headSpec wsX3_take ({ frames := 3, cells := 0, slots := 0, locals := 70 })).room s m ([.ref h, .int p1, .int p2].toArray) below meth c s.heap [] 0 0 (Qf (o_qs, o_ts, o_bs, o_cn)) (entryFrame m ([.ref h, .int p1, .int p2].toArray) 3) by rw [hQf] at hgo; exact hgo
  have hl := lv_entry ([.ref h, .int p1, .int p2]) (n := 3) (Nat.le_of_ble_eq_true rfl)
  rw [lg_entry_eq]
  generalize (lg_sl ([.ref h, .int p1, .int p2]) ++ List.replicate (3 - (lg_sl ([.ref h, .int p1, .int p2])).length) Slot.unset).toArray = ls at hl ⊢
  have hl : lv_has ls 3 [(0, .ref h), (1, .int p1), (2, .int p2)] := hl
  unfold fX3_take at hf
  refine lv_iload_n hx hb dX3_take_0 rfl (lv_at hl 1 rfl) ?_
  refine lv_iconst (v := 0) hx hb dX3_take_1 (by decide) ?_
  refine lv_ldc hx hb hown w0 dX3_take_2 ?_
  obtain ⟨r4, hv4, hf⟩ := bd1_s hf
  refine roSi (As := [.int p1, .int 0, .int 100000]) (rest := []) ⟨hx, hb, hml, hown, hts⟩ (zX3_isWithin l G cI _ p1 0 100000 hv4) (va_cwS 3 hts gX3_take_X3_isWithin rfl rfl rfl (by decide +kernel) ⟨Nat.le_of_ble_eq_true rfl, Nat.le_of_ble_eq_true rfl⟩) hK hP rfl hl.1 rfl (Nat.le_of_ble_eq_true rfl) dX3_take_4 ⟨Nat.le_of_ble_eq_true rfl, Nat.le_of_ble_eq_true rfl⟩ hS hA (fun H locs hP hz4 hS => ?_)
  refine lv_if_eq (tgt := 20) hx hb dX3_take_7 (by decide) (fun c7 => ?_) (fun c7 => ?_)
  · have hf := it_t c7 hf
    cases hf
  · have hf := it_f c7 hf
    refine lv_iload_n hx hb dX3_take_10 rfl (lv_at hl 2 rfl) ?_
    refine lv_iconst (v := 1) hx hb dX3_take_11 (by decide) ?_
    refine lv_ldc hx hb hown w0 dX3_take_12 ?_
    obtain ⟨r14, hv14, hf⟩ := bd1_s hf
    refine roSi (As := [.int p2, .int 1, .int 100000]) (rest := []) ⟨hx, hb, hml, hown, hts⟩ (zX3_isWithin l G cI _ p2 1 100000 hv14) (va_cwS 3 hts gX3_take_X3_isWithin rfl rfl rfl (by decide +kernel) ⟨Nat.le_of_ble_eq_true rfl, Nat.le_of_ble_eq_true rfl⟩) hK hP rfl hl.1 rfl (Nat.le_of_ble_eq_true rfl) dX3_take_14 ⟨Nat.le_of_ble_eq_true rfl, Nat.le_of_ble_eq_true rfl⟩ hS hA (fun H locs hP hz14 hS => ?_)
    refine lv_if_ne (tgt := 30) hx hb dX3_take_17 (by decide) (fun c17 => ?_) (fun c17 => ?_)
    · have hf := it_f c17 hf
      refine lv_aload_n hx hb dX3_take_30 rfl (lv_at hl 0 rfl) ?_
      refine va_get (D := G) (ci := 3) (v := .ref e0) (C := RX3) (T := TX3) (N := 2) hx hb hts hinX3 hown hK.1 hP 0 rfl rfl 0 (by decide) w1 (fun _ h9 => h9) rfl dX3_take_31 ?_
      refine lv_iload_n hx hb dX3_take_34 rfl (lv_at hl 1 rfl) ?_
      refine lv_iload_n hx hb dX3_take_35 rfl (lv_at hl 2 rfl) ?_
      obtain ⟨qs_36, ts_36, bs_36, cn_36, hv36, hf⟩ := bd4_s hf
      refine mcVv (As := [.int p1, .int p2]) (rest := []) (wr := [(h, .inr (3, [.ref e0, .ref r0])), (r0, .inr (2, [.ref a4])), (a4, .inl (cI, 201, .inl mo))]) (wc := [(e0, .inr (0, [.ref a1, .ref a2, .ref a3, .int cn])), (a1, .inl (cI, 32, .inl qs)), (a2, .inl (cI, 33, .inl ts)), (a3, .inl (cI, 33, .inl bs))]) ⟨hx, hb, hml, hown, hts⟩ (zX0_expand l G cI _ e0 a1 a2 a3 qs ts bs cn p1 p2 hv36) (cwV 2 hts gX3_take_X0_expand rfl rfl rfl (by decide +kernel) ⟨Nat.le_of_ble_eq_true rfl, Nat.le_of_ble_eq_true rfl⟩) hK hP hD [1, 2, 3, 4] [0, 5, 6] rfl rfl rfl (by decide) (by decide) (by decide) rfl rfl rfl hl.1 rfl (Nat.le_of_ble_eq_true rfl) dX3_take_36 ⟨Nat.le_of_ble_eq_true rfl, Nat.le_of_ble_eq_true rfl⟩ hS hA (fun H locs hP hD hz36 hS => ?_)
      have hP : va_P G vwCl [(h, .inr (3, [.ref e0, .ref r0])), (e0, .inr (0, [.ref a1, .ref a2, .ref a3, .int cn_36])), (a1, .inl (cI, 32, .inl qs_36)), (a2, .inl (cI, 33, .inl ts_36)), (a3, .inl (cI, 33, .inl bs_36)), (r0, .inr (2, [.ref a4])), (a4, .inl (cI, 201, .inl mo))] H := hP.sub [0, 3, 4, 5, 6, 1, 2] rfl
      have hD : va_D A [(h, .inr (3, [.ref e0, .ref r0])), (e0, .inr (0, [.ref a1, .ref a2, .ref a3, .int cn_36])), (a1, .inl (cI, 32, .inl qs_36)), (a2, .inl (cI, 33, .inl ts_36)), (a3, .inl (cI, 33, .inl bs_36)), (r0, .inr (2, [.ref a4])), (a4, .inl (cI, 201, .inl mo))] := hD.sub [0, 3, 4, 5, 6, 1, 2] (by decide) rfl
      refine qf_s (Qf := Qf) hf ?_
      have hP9 : va_P G vwCl [(h, .inr (3, [.ref e0, .ref r0])), (e0, .inr (0, [.ref a1, .ref a2, .ref a3, .int cn_36])), (a1, .inl (cI, 32, .inl qs_36)), (a2, .inl (cI, 33, .inl ts_36)), (a3, .inl (cI, 33, .inl bs_36)), (r0, .inr (2, [.ref a4])), (a4, .inl (cI, 201, .inl mo))] _ := hP.sub [0, 1, 2, 3, 4, 5, 6] rfl
      have hD9 : va_D A [(h, .inr (3, [.ref e0, .ref r0])), (e0, .inr (0, [.ref a1, .ref a2, .ref a3, .int cn_36])), (a1, .inl (cI, 32, .inl qs_36)), (a2, .inl (cI, 33, .inl ts_36)), (a3, .inl (cI, 33, .inl bs_36)), (r0, .inr (2, [.ref a4])), (a4, .inl (cI, 201, .inl mo))] := hD.sub [0, 1, 2, 3, 4, 5, 6] (by decide) rfl
      rw [hQf]
      exact W.vret hx hb hr (fun t ht hW => ⟨⟨(), rfl, trivial, by rw [ht]; exact hP9, hD9⟩, hS.F ht⟩) hS.2.2 dX3_take_39
    · have hf := it_t c17 hf
      cases hf
def tX3_take (p1 : Int32) (p2 : Int32) : Option Unit :=
  bd1 (fX3_isWithin p1 0 100000) fun r4 =>
  if r4 = 0 then
    some ()
  else
    bd1 (fX3_isWithin p2 1 100000) fun r14 =>
    if r14 = 0 then
      some ()
    else
      none
set_option maxHeartbeats 4000000 in
set_option maxRecDepth 100000 in
theorem uX3_take (l : Launch) (hl0 : l.stackTraces = false) (G : va_G) (cI : ClassId) (sz : Nat) (h : Nat) (p1 : Int32) (p2 : Int32) (hf : tX3_take p1 p2 = some ()) : mTv l yX3_take wsX3_take ({ frames := 6, cells := 1, slots := 6, locals := 82 }) [.ref h, .int p1, .int p2] G cI 34 "top must be 0 .. 100000, bottom 1 .. 100000" [] sz := by
  refine vx_ofW (cc := cX3_take) (maxL := 3) (ret := none) (by decide) rfl ?_
  intro p e s m args below meth c s₁ B hml htb hv
  obtain ⟨rfl, hsz, hP, hK, ⟨⟨sa, hstr⟩, hcs⟩, hZ⟩ := hv
  have hx := B.exec
  have hb := B.bytes
  have hr := B.returns
  have hts := atoms_spec (ws := wsX3_take) B.pre
  have hown : s.vm.findClass RX3 = some m.cls := findClass_of_methodNamed B.named
  have hlocks := B.notSynchronized
  subst hsz
  generalize hAe : va_A [] s.heap.size = A at hZ ⊢
  have hA : ∀ q : Nat, s.heap.size ≤ q → A q := fun q h => by rw [← hAe]; exact Or.inr h
  have hS : va_S A s.heap s.heap [] := va_S.rf
  have w0 := hts (.constant RX3 27 (100000)) (by decide +kernel)
  have w1 := hts (.classLink RX3 32 "java/lang/IllegalArgumentException") (by decide +kernel)
  have w2 := hts (.initialized "java/lang/IllegalArgumentException") (by decide +kernel)
  have hl := lv_entry ([.ref h, .int p1, .int p2]) (n := 3) (Nat.le_of_ble_eq_true rfl)
  rw [lg_entry_eq]
  generalize (lg_sl ([.ref h, .int p1, .int p2]) ++ List.replicate (3 - (lg_sl ([.ref h, .int p1, .int p2])).length) Slot.unset).toArray = ls at hl ⊢
  have hl : lv_has ls 3 [(0, .ref h), (1, .int p1), (2, .int p2)] := hl
  unfold tX3_take at hf
  refine lv_iload_n hx hb dX3_take_0 rfl (lv_at hl 1 rfl) ?_
  refine lv_iconst (v := 0) hx hb dX3_take_1 (by decide) ?_
  refine lv_ldc hx hb hown w0 dX3_take_2 ?_
  obtain ⟨r4, hv4, hf⟩ := bd1_s hf
  refine roSi (As := [.int p1, .int 0, .int 100000]) (rest := []) ⟨hx, hb, hml, hown, hts⟩ (zX3_isWithin l G cI _ p1 0 100000 hv4) (va_cwS 3 hts gX3_take_X3_isWithin rfl rfl rfl (by decide +kernel) ⟨Nat.le_of_ble_eq_true rfl, Nat.le_of_ble_eq_true rfl⟩) hK hP rfl hl.1 rfl (Nat.le_of_ble_eq_true rfl) dX3_take_4 ⟨Nat.le_of_ble_eq_true rfl, Nat.le_of_ble_eq_true rfl⟩ hS hA (fun H locs hP hz4 hS => ?_)
  refine lv_if_eq (tgt := 20) hx hb dX3_take_7 (by decide) (fun c7 => ?_) (fun c7 => ?_)
  · have hf := it_t c7 hf
    exact thX3 hx hb hl0 hown w1 w2 hstr hcs (fun w hw => hts w (List.mem_cons_of_mem _ (List.mem_append_right _ hw))) hZ hS (by rw [hml]; exact hl.1) dX3_take_20 dX3_take_23 dX3_take_24 dX3_take_26 dX3_take_29 (fun x hx => (htb x hx).elim) (Nat.le_of_ble_eq_true rfl) (Nat.le_of_ble_eq_true rfl) (Nat.le_of_ble_eq_true rfl) (Nat.le_of_ble_eq_true rfl) hlocks (fun t ht1 ht2 ht3 => ⟨(), trivial, rfl, Nat.le_trans hS.1 ht2, fun q h1 h2 => (ht3 q (Nat.lt_of_lt_of_le h1 hS.1)).trans (hS.2.1 q h1 (by rw [← hAe]; exact h2))⟩) hS.2.2 (Nat.le_of_ble_eq_true rfl) (Nat.le_of_ble_eq_true rfl)
  · have hf := it_f c7 hf
    refine lv_iload_n hx hb dX3_take_10 rfl (lv_at hl 2 rfl) ?_
    refine lv_iconst (v := 1) hx hb dX3_take_11 (by decide) ?_
    refine lv_ldc hx hb hown w0 dX3_take_12 ?_
    obtain ⟨r14, hv14, hf⟩ := bd1_s hf
    refine roSi (As := [.int p2, .int 1, .int 100000]) (rest := []) ⟨hx, hb, hml, hown, hts⟩ (zX3_isWithin l G cI _ p2 1 100000 hv14) (va_cwS 3 hts gX3_take_X3_isWithin rfl rfl rfl (by decide +kernel) ⟨Nat.le_of_ble_eq_true rfl, Nat.le_of_ble_eq_true rfl⟩) hK hP rfl hl.1 rfl (Nat.le_of_ble_eq_true rfl) dX3_take_14 ⟨Nat.le_of_ble_eq_true rfl, Nat.le_of_ble_eq_true rfl⟩ hS hA (fun H locs hP hz14 hS => ?_)
    refine lv_if_ne (tgt := 30) hx hb dX3_take_17 (by decide) (fun c17 => ?_) (fun c17 => ?_)
    · have hf := it_f c17 hf
      cases hf
    · have hf := it_t c17 hf
      exact thX3 hx hb hl0 hown w1 w2 hstr hcs (fun w hw => hts w (List.mem_cons_of_mem _ (List.mem_append_right _ hw))) hZ hS (by rw [hml]; exact hl.1) dX3_take_20 dX3_take_23 dX3_take_24 dX3_take_26 dX3_take_29 (fun x hx => (htb x hx).elim) (Nat.le_of_ble_eq_true rfl) (Nat.le_of_ble_eq_true rfl) (Nat.le_of_ble_eq_true rfl) (Nat.le_of_ble_eq_true rfl) hlocks (fun t ht1 ht2 ht3 => ⟨(), trivial, rfl, Nat.le_trans hS.1 ht2, fun q h1 h2 => (ht3 q (Nat.lt_of_lt_of_le h1 hS.1)).trans (hS.2.1 q h1 (by rw [← hAe]; exact h2))⟩) hS.2.2 (Nat.le_of_ble_eq_true rfl) (Nat.le_of_ble_eq_true rfl)
def fX3_near (ts : Nat → Int32) (bs : Nat → Int32) (cn : Int32) (p1 : Int32) (p2 : Int32) (p3 : Int32) : Option (Int32) :=
  bd1 (fX3_isWithin p1 1 1000) fun r5 =>
  if r5 = 0 then
    none
  else
    bd1 (fX3_isWithin p2 0 2) fun r14 =>
    if r14 = 0 then
      none
    else
      bd1 (fX3_isWithin p3 0 1) fun r23 =>
      if r23 = 0 then
        none
      else
        bd1 (fX0_bottom bs cn) fun r43 =>
        if p1 < r43 then
          bd2 (fX0_nearWithin ts bs cn p1 p2) fun r62_1 r62_2 =>
          bd1 (fX3_topOrBottom p3 r62_1 r62_2) fun r78 =>
          some r78
        else
          bd1 (fX3_part ts bs cn p3) fun r52 =>
          some r52
set_option maxHeartbeats 4000000 in
set_option maxRecDepth 100000 in
theorem zX3_near (l : Launch) (G : va_G) (cI : ClassId) (sz : Nat) (h e0 a1 a2 a3 r0 a4 : Nat) (qs : Nat → Int32) (ts : Nat → Int32) (bs : Nat → Int32) (cn : Int32) (mo : Nat → Int32) (p1 : Int32) (p2 : Int32) (p3 : Int32) {rv : Int32} (hf : fX3_near ts bs cn p1 p2 p3 = some rv) : mMi l yX3_near wsX3_near ({ frames := 3, cells := 2, slots := 4, locals := 75 }) [.ref h, .int p1, .int p2, .int p3] G cI [(h, .inr (3, [.ref e0, .ref r0])), (e0, .inr (0, [.ref a1, .ref a2, .ref a3, .int cn])), (a1, .inl (cI, 32, .inl qs)), (a2, .inl (cI, 33, .inl ts)), (a3, .inl (cI, 33, .inl bs)), (r0, .inr (2, [.ref a4])), (a4, .inl (cI, 201, .inl mo))] sz rv [(h, .inr (3, [.ref e0, .ref r0])), (e0, .inr (0, [.ref a1, .ref a2, .ref a3, .int cn])), (a1, .inl (cI, 32, .inl qs)), (a2, .inl (cI, 33, .inl ts)), (a3, .inl (cI, 33, .inl bs)), (r0, .inr (2, [.ref a4])), (a4, .inl (cI, 201, .inl mo))] 2 4 := by
  refine Met.ofW (cc := cX3_near) (maxL := 5) (ret := (some .int)) (by decide) rfl ?_
  intro p e s m args below meth c s₁ B hml hv
  obtain ⟨rfl, hsz, hP, hK, hD0⟩ := hv
  have hx := B.exec
  have hb := B.bytes
  have hr := B.returns
  have hts := atoms_spec (ws := wsX3_near) B.pre
  have hown : s.vm.findClass RX3 = some m.cls := findClass_of_methodNamed B.named
  have hlocks := B.notSynchronized
  subst hsz
  have hD := hD0.self (sz := s.heap.size)
  generalize hAe : va_A [(h, .inr (3, [.ref e0, .ref r0])), (e0, .inr (0, [.ref a1, .ref a2, .ref a3, .int cn])), (a1, .inl (cI, 32, .inl qs)), (a2, .inl (cI, 33, .inl ts)), (a3, .inl (cI, 33, .inl bs)), (r0, .inr (2, [.ref a4])), (a4, .inl (cI, 201, .inl mo))] s.heap.size = A at hD ⊢
  have hA : ∀ q : Nat, s.heap.size ≤ q → A q := fun q h => by rw [← hAe]; exact Or.inr h
  have hS : va_S A s.heap s.heap [] := va_S.rf
  have w0 := hts (.fieldLink RX3 10 "SternDesk" "hand" "LSternDesk$Expansion;") (by decide +kernel)
  have hinX3 : ∀ w ∈ u_ws RX3 TX3 2, w ∈ wsX3_near := by decide +kernel
  have w2 := hts (.fieldLink RX3 82 "SternDesk$Fraction" "top" "I") (by decide +kernel)
  have hinX1 : ∀ w ∈ u_ws RX1 TX1 2, w ∈ wsX3_near := by decide +kernel
  have w4 := hts (.fieldLink RX3 86 "SternDesk$Fraction" "bottom" "I") (by decide +kernel)
  obtain ⟨Qf, hQf⟩ : ∃ f : Int32 → State → Prop, f = fun z => MQ below (va_Qi (fun (r : Int32) (_ : Unit) => r = z) (fun _ t => va_P G vwCl [(h, .inr (3, [.ref e0, .ref r0])), (e0, .inr (0, [.ref a1, .ref a2, .ref a3, .int cn])), (a1, .inl (cI, 32, .inl qs)), (a2, .inl (cI, 33, .inl ts)), (a3, .inl (cI, 33, .inl bs)), (r0, .inr (2, [.ref a4])), (a4, .inl (cI, 201, .inl mo))] t.heap ∧ va_D A [(h, .inr (3, [.ref e0, .ref r0])), (e0, .inr (0, [.ref a1, .ref a2, .ref a3, .int cn])), (a1, .inl (cI, 32, .inl qs)), (a2, .inl (cI, 33, .inl ts)), (a3, .inl (cI, 33, .inl bs)), (r0, .inr (2, [.ref a4])), (a4, .inl (cI, 201, .inl mo))]) A) ([.ref h, .int p1, .int p2, .int p3].toArray) s 2 4 A := ⟨_, rfl⟩
  suffices hgo : W p l e (headSpec wsX3_near ({ frames := 3, cells := 2, slots := 4, locals := 75 })).room s m ([.ref h, .int p1, .int p2, .int p3].toArray) below meth c s.heap [] 0 0 (Qf rv) (entryFrame m ([.ref h, .int p1, .int p2, .int p3].toArray) 5) by rw [hQf] at hgo; exact hgo
  have hl := lv_entry ([.ref h, .int p1, .int p2, .int p3]) (n := 5) (Nat.le_of_ble_eq_true rfl)
  rw [lg_entry_eq]
  generalize (lg_sl ([.ref h, .int p1, .int p2, .int p3]) ++ List.replicate (5 - (lg_sl ([.ref h, .int p1, .int p2, .int p3])).length) Slot.unset).toArray = ls at hl ⊢
  have hl : lv_has ls 5 [(0, .ref h), (1, .int p1), (2, .int p2), (3, .int p3)] := hl
  unfold fX3_near at hf
  refine lv_iload_n hx hb dX3_near_0 rfl (lv_at hl 1 rfl) ?_
  refine lv_iconst (v := 1) hx hb dX3_near_1 (by decide) ?_
  refine lv_sipush (v := 1000) hx hb dX3_near_2 (by decide) ?_
  obtain ⟨r5, hv5, hf⟩ := bd1_s hf
  refine roSi (As := [.int p1, .int 1, .int 1000]) (rest := []) ⟨hx, hb, hml, hown, hts⟩ (zX3_isWithin l G cI _ p1 1 1000 hv5) (va_cwS 3 hts gX3_near_X3_isWithin rfl rfl rfl (by decide +kernel) ⟨Nat.le_of_ble_eq_true rfl, Nat.le_of_ble_eq_true rfl⟩) hK hP rfl hl.1 rfl (Nat.le_of_ble_eq_true rfl) dX3_near_5 ⟨Nat.le_of_ble_eq_true rfl, Nat.le_of_ble_eq_true rfl⟩ hS hA (fun H locs hP hz5 hS => ?_)
  refine lv_if_eq (tgt := 29) hx hb dX3_near_8 (by decide) (fun c8 => ?_) (fun c8 => ?_)
  · have hf := it_t c8 hf
    cases hf
  · have hf := it_f c8 hf
    refine lv_iload_n hx hb dX3_near_11 rfl (lv_at hl 2 rfl) ?_
    refine lv_iconst (v := 0) hx hb dX3_near_12 (by decide) ?_
    refine lv_iconst (v := 2) hx hb dX3_near_13 (by decide) ?_
    obtain ⟨r14, hv14, hf⟩ := bd1_s hf
    refine roSi (As := [.int p2, .int 0, .int 2]) (rest := []) ⟨hx, hb, hml, hown, hts⟩ (zX3_isWithin l G cI _ p2 0 2 hv14) (va_cwS 3 hts gX3_near_X3_isWithin rfl rfl rfl (by decide +kernel) ⟨Nat.le_of_ble_eq_true rfl, Nat.le_of_ble_eq_true rfl⟩) hK hP rfl hl.1 rfl (Nat.le_of_ble_eq_true rfl) dX3_near_14 ⟨Nat.le_of_ble_eq_true rfl, Nat.le_of_ble_eq_true rfl⟩ hS hA (fun H locs hP hz14 hS => ?_)
    refine lv_if_eq (tgt := 29) hx hb dX3_near_17 (by decide) (fun c17 => ?_) (fun c17 => ?_)
    · have hf := it_t c17 hf
      cases hf
    · have hf := it_f c17 hf
      refine lv_iload_n hx hb dX3_near_20 rfl (lv_at hl 3 rfl) ?_
      refine lv_iconst (v := 0) hx hb dX3_near_21 (by decide) ?_
      refine lv_iconst (v := 1) hx hb dX3_near_22 (by decide) ?_
      obtain ⟨r23, hv23, hf⟩ := bd1_s hf
      refine roSi (As := [.int p3, .int 0, .int 1]) (rest := []) ⟨hx, hb, hml, hown, hts⟩ (zX3_isWithin l G cI _ p3 0 1 hv23) (va_cwS 3 hts gX3_near_X3_isWithin rfl rfl rfl (by decide +kernel) ⟨Nat.le_of_ble_eq_true rfl, Nat.le_of_ble_eq_true rfl⟩) hK hP rfl hl.1 rfl (Nat.le_of_ble_eq_true rfl) dX3_near_23 ⟨Nat.le_of_ble_eq_true rfl, Nat.le_of_ble_eq_true rfl⟩ hS hA (fun H locs hP hz23 hS => ?_)
      refine lv_if_ne (tgt := 39) hx hb dX3_near_26 (by decide) (fun c26 => ?_) (fun c26 => ?_)
      · have hf := it_f c26 hf
        refine lv_aload_n hx hb dX3_near_39 rfl (lv_at hl 0 rfl) ?_
        refine va_get (D := G) (ci := 3) (v := .ref e0) (C := RX3) (T := TX3) (N := 2) hx hb hts hinX3 hown hK.1 hP 0 rfl rfl 0 (by decide) w0 (fun _ h9 => h9) rfl dX3_near_40 ?_
        obtain ⟨r43, hv43, hf⟩ := bd1_s hf
        refine roVi (As := []) (rest := []) ⟨hx, hb, hml, hown, hts⟩ (zX0_bottom l G cI _ e0 a1 a2 a3 qs ts bs cn  hv43) (cwV 0 hts gX3_near_X0_bottom rfl rfl rfl (by decide +kernel) ⟨Nat.le_of_ble_eq_true rfl, Nat.le_of_ble_eq_true rfl⟩) hK hP (hP.sub [1, 2, 3, 4] rfl) rfl rfl rfl hl.1 rfl (Nat.le_of_ble_eq_true rfl) dX3_near_43 ⟨Nat.le_of_ble_eq_true rfl, Nat.le_of_ble_eq_true rfl⟩ hS hA (fun H locs hP hz43 hS => ?_)
        refine lv_iload_n hx hb dX3_near_46 rfl (lv_at hl 1 rfl) ?_
        refine lv_icmp_gt (tgt := 56) hx hb dX3_near_47 (by decide) (fun c47 => ?_) (fun c47 => ?_)
        · have hf := it_t c47 hf
          refine lv_aload_n hx hb dX3_near_56 rfl (lv_at hl 0 rfl) ?_
          refine va_get (D := G) (ci := 3) (v := .ref e0) (C := RX3) (T := TX3) (N := 2) hx hb hts hinX3 hown hK.1 hP 0 rfl rfl 0 (by decide) w0 (fun _ h9 => h9) rfl dX3_near_57 ?_
          refine lv_iload_n hx hb dX3_near_60 rfl (lv_at hl 1 rfl) ?_
          refine lv_iload_n hx hb dX3_near_61 rfl (lv_at hl 2 rfl) ?_
          obtain ⟨r62_1, r62_2, hv62, hf⟩ := bd2_s hf
          refine ncVr (As := [.int p1, .int p2]) (rest := []) (wr := [(h, .inr (3, [.ref e0, .ref r0])), (r0, .inr (2, [.ref a4])), (a4, .inl (cI, 201, .inl mo))]) (wc := [(e0, .inr (0, [.ref a1, .ref a2, .ref a3, .int cn])), (a1, .inl (cI, 32, .inl qs)), (a2, .inl (cI, 33, .inl ts)), (a3, .inl (cI, 33, .inl bs))]) ⟨hx, hb, hml, hown, hts⟩ (zX0_nearWithin l G cI _ e0 a1 a2 a3 qs ts bs cn p1 p2 hv62) (cwV 2 hts gX3_near_X0_nearWithin rfl rfl rfl (by decide +kernel) ⟨Nat.le_of_ble_eq_true rfl, Nat.le_of_ble_eq_true rfl⟩) hK hP hD [1, 2, 3, 4] [0, 5, 6] rfl rfl rfl (by decide) (by decide) (by decide) rfl rfl rfl hl.1 rfl (Nat.le_of_ble_eq_true rfl) dX3_near_62 ⟨Nat.le_of_ble_eq_true rfl, Nat.le_of_ble_eq_true rfl⟩ hS hA (fun q62 H locs hP hD hz62 hS => ?_)
          have hP : va_P G vwCl [(h, .inr (3, [.ref e0, .ref r0])), (e0, .inr (0, [.ref a1, .ref a2, .ref a3, .int cn])), (a1, .inl (cI, 32, .inl qs)), (a2, .inl (cI, 33, .inl ts)), (a3, .inl (cI, 33, .inl bs)), (r0, .inr (2, [.ref a4])), (a4, .inl (cI, 201, .inl mo)), (q62, .inr (1, [.int r62_1, .int r62_2]))] H := hP.sub [0, 3, 4, 5, 6, 1, 2, 7] rfl
          have hD : va_D A [(h, .inr (3, [.ref e0, .ref r0])), (e0, .inr (0, [.ref a1, .ref a2, .ref a3, .int cn])), (a1, .inl (cI, 32, .inl qs)), (a2, .inl (cI, 33, .inl ts)), (a3, .inl (cI, 33, .inl bs)), (r0, .inr (2, [.ref a4])), (a4, .inl (cI, 201, .inl mo)), (q62, .inr (1, [.int r62_1, .int r62_2]))] := hD.sub [0, 3, 4, 5, 6, 1, 2, 7] (by decide) rfl
          refine lv_astore (lv' := [(4, .ref q62), (0, .ref h), (1, .int p1), (2, .int p2), (3, .int p3)]) hx hb dX3_near_65 hl (by decide) rfl (fun ls hl => ?_)
          refine lv_iload_n hx hb dX3_near_67 rfl (lv_at hl 4 rfl) ?_
          refine lv_aload hx hb dX3_near_68 (lv_at hl 0 rfl) ?_
          refine va_get (D := G) (ci := 1) (v := .int r62_1) (C := RX1) (T := TX1) (N := 2) hx hb hts hinX1 hown hK.1 hP 7 rfl rfl 0 (by decide) w2 (fun _ h9 => h9) rfl dX3_near_70 ?_
          refine lv_aload hx hb dX3_near_73 (lv_at hl 0 rfl) ?_
          refine va_get (D := G) (ci := 1) (v := .int r62_2) (C := RX1) (T := TX1) (N := 2) hx hb hts hinX1 hown hK.1 hP 7 rfl rfl 1 (by decide) w4 (fun _ h9 => h9) rfl dX3_near_75 ?_
          obtain ⟨r78, hv78, hf⟩ := bd1_s hf
          refine roSi (As := [.int p3, .int r62_1, .int r62_2]) (rest := []) ⟨hx, hb, hml, hown, hts⟩ (zX3_topOrBottom l G cI _ p3 r62_1 r62_2 hv78) (va_cwS 3 hts gX3_near_X3_topOrBottom rfl rfl rfl (by decide +kernel) ⟨Nat.le_of_ble_eq_true rfl, Nat.le_of_ble_eq_true rfl⟩) hK hP rfl hl.1 rfl (Nat.le_of_ble_eq_true rfl) dX3_near_78 ⟨Nat.le_of_ble_eq_true rfl, Nat.le_of_ble_eq_true rfl⟩ hS hA (fun H locs hP hz78 hS => ?_)
          refine qf_s (Qf := Qf) hf ?_
          refine W.widen (k := 2) (n := 4) (Nat.le_of_ble_eq_true rfl) (Nat.le_of_ble_eq_true rfl) ?_
          have hP9 : va_P G vwCl [(h, .inr (3, [.ref e0, .ref r0])), (e0, .inr (0, [.ref a1, .ref a2, .ref a3, .int cn])), (a1, .inl (cI, 32, .inl qs)), (a2, .inl (cI, 33, .inl ts)), (a3, .inl (cI, 33, .inl bs)), (r0, .inr (2, [.ref a4])), (a4, .inl (cI, 201, .inl mo))] _ := hP.sub [0, 1, 2, 3, 4, 5, 6] rfl
          have hD9 : va_D A [(h, .inr (3, [.ref e0, .ref r0])), (e0, .inr (0, [.ref a1, .ref a2, .ref a3, .int cn])), (a1, .inl (cI, 32, .inl qs)), (a2, .inl (cI, 33, .inl ts)), (a3, .inl (cI, 33, .inl bs)), (r0, .inr (2, [.ref a4])), (a4, .inl (cI, 201, .inl mo))] := hD.sub [0, 1, 2, 3, 4, 5, 6] (by decide) rfl
          rw [hQf]
          exact W.iret hx hb hr (fun t ht hW => ⟨⟨_, (), rfl, rfl, by rw [ht]; exact hP9, hD9⟩, hS.F ht⟩) hS.2.2 dX3_near_81
        · have hf := it_f c47 hf
          refine lv_aload_n hx hb dX3_near_50 rfl (lv_at hl 0 rfl) ?_
          refine lv_iload_n hx hb dX3_near_51 rfl (lv_at hl 3 rfl) ?_
          obtain ⟨r52, hv52, hf⟩ := bd1_s hf
          refine roVi (As := [.int p3]) (rest := []) ⟨hx, hb, hml, hown, hts⟩ (zX3_part l G cI _ h e0 a1 a2 a3 r0 a4 qs ts bs cn mo p3 hv52) (cwV 1 hts gX3_near_X3_part rfl rfl rfl (by decide +kernel) ⟨Nat.le_of_ble_eq_true rfl, Nat.le_of_ble_eq_true rfl⟩) hK hP (hP.sub [0, 1, 2, 3, 4, 5, 6] rfl) rfl rfl rfl hl.1 rfl (Nat.le_of_ble_eq_true rfl) dX3_near_52 ⟨Nat.le_of_ble_eq_true rfl, Nat.le_of_ble_eq_true rfl⟩ hS hA (fun H locs hP hz52 hS => ?_)
          refine qf_s (Qf := Qf) hf ?_
          refine W.widen (k := 2) (n := 4) (Nat.le_of_ble_eq_true rfl) (Nat.le_of_ble_eq_true rfl) ?_
          have hP9 : va_P G vwCl [(h, .inr (3, [.ref e0, .ref r0])), (e0, .inr (0, [.ref a1, .ref a2, .ref a3, .int cn])), (a1, .inl (cI, 32, .inl qs)), (a2, .inl (cI, 33, .inl ts)), (a3, .inl (cI, 33, .inl bs)), (r0, .inr (2, [.ref a4])), (a4, .inl (cI, 201, .inl mo))] _ := hP.sub [0, 1, 2, 3, 4, 5, 6] rfl
          have hD9 : va_D A [(h, .inr (3, [.ref e0, .ref r0])), (e0, .inr (0, [.ref a1, .ref a2, .ref a3, .int cn])), (a1, .inl (cI, 32, .inl qs)), (a2, .inl (cI, 33, .inl ts)), (a3, .inl (cI, 33, .inl bs)), (r0, .inr (2, [.ref a4])), (a4, .inl (cI, 201, .inl mo))] := hD.sub [0, 1, 2, 3, 4, 5, 6] (by decide) rfl
          rw [hQf]
          exact W.iret hx hb hr (fun t ht hW => ⟨⟨_, (), rfl, rfl, by rw [ht]; exact hP9, hD9⟩, hS.F ht⟩) hS.2.2 dX3_near_55
      · have hf := it_t c26 hf
        cases hf
def tX3_near (p1 : Int32) (p2 : Int32) (p3 : Int32) : Option Unit :=
  bd1 (fX3_isWithin p1 1 1000) fun r5 =>
  if r5 = 0 then
    some ()
  else
    bd1 (fX3_isWithin p2 0 2) fun r14 =>
    if r14 = 0 then
      some ()
    else
      bd1 (fX3_isWithin p3 0 1) fun r23 =>
      if r23 = 0 then
        some ()
      else
        none
set_option maxHeartbeats 4000000 in
set_option maxRecDepth 100000 in
theorem uX3_near (l : Launch) (hl0 : l.stackTraces = false) (G : va_G) (cI : ClassId) (sz : Nat) (h : Nat) (p1 : Int32) (p2 : Int32) (p3 : Int32) (hf : tX3_near p1 p2 p3 = some ()) : mTi l yX3_near wsX3_near ({ frames := 6, cells := 1, slots := 6, locals := 82 }) [.ref h, .int p1, .int p2, .int p3] G cI 96 "n must be 1 .. 1000, way 0 .. 2, what 0 or 1" [] sz := by
  refine vx_ofW (cc := cX3_near) (maxL := 5) (ret := (some .int)) (by decide) rfl ?_
  intro p e s m args below meth c s₁ B hml htb hv
  obtain ⟨rfl, hsz, hP, hK, ⟨⟨sa, hstr⟩, hcs⟩, hZ⟩ := hv
  have hx := B.exec
  have hb := B.bytes
  have hr := B.returns
  have hts := atoms_spec (ws := wsX3_near) B.pre
  have hown : s.vm.findClass RX3 = some m.cls := findClass_of_methodNamed B.named
  have hlocks := B.notSynchronized
  subst hsz
  generalize hAe : va_A [] s.heap.size = A at hZ ⊢
  have hA : ∀ q : Nat, s.heap.size ≤ q → A q := fun q h => by rw [← hAe]; exact Or.inr h
  have hS : va_S A s.heap s.heap [] := va_S.rf
  have w0 := hts (.classLink RX3 32 "java/lang/IllegalArgumentException") (by decide +kernel)
  have w1 := hts (.initialized "java/lang/IllegalArgumentException") (by decide +kernel)
  have hl := lv_entry ([.ref h, .int p1, .int p2, .int p3]) (n := 5) (Nat.le_of_ble_eq_true rfl)
  rw [lg_entry_eq]
  generalize (lg_sl ([.ref h, .int p1, .int p2, .int p3]) ++ List.replicate (5 - (lg_sl ([.ref h, .int p1, .int p2, .int p3])).length) Slot.unset).toArray = ls at hl ⊢
  have hl : lv_has ls 5 [(0, .ref h), (1, .int p1), (2, .int p2), (3, .int p3)] := hl
  unfold tX3_near at hf
  refine lv_iload_n hx hb dX3_near_0 rfl (lv_at hl 1 rfl) ?_
  refine lv_iconst (v := 1) hx hb dX3_near_1 (by decide) ?_
  refine lv_sipush (v := 1000) hx hb dX3_near_2 (by decide) ?_
  obtain ⟨r5, hv5, hf⟩ := bd1_s hf
  refine roSi (As := [.int p1, .int 1, .int 1000]) (rest := []) ⟨hx, hb, hml, hown, hts⟩ (zX3_isWithin l G cI _ p1 1 1000 hv5) (va_cwS 3 hts gX3_near_X3_isWithin rfl rfl rfl (by decide +kernel) ⟨Nat.le_of_ble_eq_true rfl, Nat.le_of_ble_eq_true rfl⟩) hK hP rfl hl.1 rfl (Nat.le_of_ble_eq_true rfl) dX3_near_5 ⟨Nat.le_of_ble_eq_true rfl, Nat.le_of_ble_eq_true rfl⟩ hS hA (fun H locs hP hz5 hS => ?_)
  refine lv_if_eq (tgt := 29) hx hb dX3_near_8 (by decide) (fun c8 => ?_) (fun c8 => ?_)
  · have hf := it_t c8 hf
    exact thX3 hx hb hl0 hown w0 w1 hstr hcs (fun w hw => hts w (List.mem_cons_of_mem _ (List.mem_append_right _ hw))) hZ hS (by rw [hml]; exact hl.1) dX3_near_29 dX3_near_32 dX3_near_33 dX3_near_35 dX3_near_38 (fun x hx => (htb x hx).elim) (Nat.le_of_ble_eq_true rfl) (Nat.le_of_ble_eq_true rfl) (Nat.le_of_ble_eq_true rfl) (Nat.le_of_ble_eq_true rfl) hlocks (fun t ht1 ht2 ht3 => ⟨(), trivial, rfl, Nat.le_trans hS.1 ht2, fun q h1 h2 => (ht3 q (Nat.lt_of_lt_of_le h1 hS.1)).trans (hS.2.1 q h1 (by rw [← hAe]; exact h2))⟩) hS.2.2 (Nat.le_of_ble_eq_true rfl) (Nat.le_of_ble_eq_true rfl)
  · have hf := it_f c8 hf
    refine lv_iload_n hx hb dX3_near_11 rfl (lv_at hl 2 rfl) ?_
    refine lv_iconst (v := 0) hx hb dX3_near_12 (by decide) ?_
    refine lv_iconst (v := 2) hx hb dX3_near_13 (by decide) ?_
    obtain ⟨r14, hv14, hf⟩ := bd1_s hf
    refine roSi (As := [.int p2, .int 0, .int 2]) (rest := []) ⟨hx, hb, hml, hown, hts⟩ (zX3_isWithin l G cI _ p2 0 2 hv14) (va_cwS 3 hts gX3_near_X3_isWithin rfl rfl rfl (by decide +kernel) ⟨Nat.le_of_ble_eq_true rfl, Nat.le_of_ble_eq_true rfl⟩) hK hP rfl hl.1 rfl (Nat.le_of_ble_eq_true rfl) dX3_near_14 ⟨Nat.le_of_ble_eq_true rfl, Nat.le_of_ble_eq_true rfl⟩ hS hA (fun H locs hP hz14 hS => ?_)
    refine lv_if_eq (tgt := 29) hx hb dX3_near_17 (by decide) (fun c17 => ?_) (fun c17 => ?_)
    · have hf := it_t c17 hf
      exact thX3 hx hb hl0 hown w0 w1 hstr hcs (fun w hw => hts w (List.mem_cons_of_mem _ (List.mem_append_right _ hw))) hZ hS (by rw [hml]; exact hl.1) dX3_near_29 dX3_near_32 dX3_near_33 dX3_near_35 dX3_near_38 (fun x hx => (htb x hx).elim) (Nat.le_of_ble_eq_true rfl) (Nat.le_of_ble_eq_true rfl) (Nat.le_of_ble_eq_true rfl) (Nat.le_of_ble_eq_true rfl) hlocks (fun t ht1 ht2 ht3 => ⟨(), trivial, rfl, Nat.le_trans hS.1 ht2, fun q h1 h2 => (ht3 q (Nat.lt_of_lt_of_le h1 hS.1)).trans (hS.2.1 q h1 (by rw [← hAe]; exact h2))⟩) hS.2.2 (Nat.le_of_ble_eq_true rfl) (Nat.le_of_ble_eq_true rfl)
    · have hf := it_f c17 hf
      refine lv_iload_n hx hb dX3_near_20 rfl (lv_at hl 3 rfl) ?_
      refine lv_iconst (v := 0) hx hb dX3_near_21 (by decide) ?_
      refine lv_iconst (v := 1) hx hb dX3_near_22 (by decide) ?_
      obtain ⟨r23, hv23, hf⟩ := bd1_s hf
      refine roSi (As := [.int p3, .int 0, .int 1]) (rest := []) ⟨hx, hb, hml, hown, hts⟩ (zX3_isWithin l G cI _ p3 0 1 hv23) (va_cwS 3 hts gX3_near_X3_isWithin rfl rfl rfl (by decide +kernel) ⟨Nat.le_of_ble_eq_true rfl, Nat.le_of_ble_eq_true rfl⟩) hK hP rfl hl.1 rfl (Nat.le_of_ble_eq_true rfl) dX3_near_23 ⟨Nat.le_of_ble_eq_true rfl, Nat.le_of_ble_eq_true rfl⟩ hS hA (fun H locs hP hz23 hS => ?_)
      refine lv_if_ne (tgt := 39) hx hb dX3_near_26 (by decide) (fun c26 => ?_) (fun c26 => ?_)
      · have hf := it_f c26 hf
        cases hf
      · have hf := it_t c26 hf
        exact thX3 hx hb hl0 hown w0 w1 hstr hcs (fun w hw => hts w (List.mem_cons_of_mem _ (List.mem_append_right _ hw))) hZ hS (by rw [hml]; exact hl.1) dX3_near_29 dX3_near_32 dX3_near_33 dX3_near_35 dX3_near_38 (fun x hx => (htb x hx).elim) (Nat.le_of_ble_eq_true rfl) (Nat.le_of_ble_eq_true rfl) (Nat.le_of_ble_eq_true rfl) (Nat.le_of_ble_eq_true rfl) hlocks (fun t ht1 ht2 ht3 => ⟨(), trivial, rfl, Nat.le_trans hS.1 ht2, fun q h1 h2 => (ht3 q (Nat.lt_of_lt_of_le h1 hS.1)).trans (hS.2.1 q h1 (by rw [← hAe]; exact h2))⟩) hS.2.2 (Nat.le_of_ble_eq_true rfl) (Nat.le_of_ble_eq_true rfl)
def fX3_between (qs : Nat → Int32) (ts : Nat → Int32) (bs : Nat → Int32) (cn : Int32) (p1 : Int32) (p2 : Int32) (p3 : Int32) (p4 : Int32) : Option (Int32 × (Nat → Int32) × (Nat → Int32) × (Nat → Int32) × Int32) :=
  bd1 (fX3_isWithin p1 0 5000) fun r5 =>
  if r5 = 0 then
    none
  else
    bd1 (fX3_isWithin p2 1 5000) fun r16 =>
    if r16 = 0 then
      none
    else
      bd1 (fX3_isWithin p3 0 5000) fun r27 =>
      if r27 = 0 then
        none
      else
        bd1 (fX3_isWithin p4 1 5000) fun r39 =>
        if r39 = 0 then
          none
        else
          if (p1 * p4) < (p3 * p2) then
            bd4 (fX0_expandSimplest qs ts bs cn p1 p2 p3 p4) fun qs_76 ts_76 bs_76 cn_76 =>
            some (1, qs_76, ts_76, bs_76, cn_76)
          else
            some (0, qs, ts, bs, cn)
set_option maxHeartbeats 4000000 in
set_option maxRecDepth 100000 in
theorem zX3_between (l : Launch) (G : va_G) (cI : ClassId) (sz : Nat) (h e0 a1 a2 a3 r0 a4 : Nat) (qs : Nat → Int32) (ts : Nat → Int32) (bs : Nat → Int32) (cn : Int32) (mo : Nat → Int32) (p1 : Int32) (p2 : Int32) (p3 : Int32) (p4 : Int32) {rv : Int32} {o_qs : Nat → Int32} {o_ts : Nat → Int32} {o_bs : Nat → Int32} {o_cn : Int32} (hf : fX3_between qs ts bs cn p1 p2 p3 p4 = some (rv, o_qs, o_ts, o_bs, o_cn)) : mMi l yX3_between wsX3_between ({ frames := 3, cells := 0, slots := 0, locals := 72 }) [.ref h, .int p1, .int p2, .int p3, .int p4] G cI [(h, .inr (3, [.ref e0, .ref r0])), (e0, .inr (0, [.ref a1, .ref a2, .ref a3, .int cn])), (a1, .inl (cI, 32, .inl qs)), (a2, .inl (cI, 33, .inl ts)), (a3, .inl (cI, 33, .inl bs)), (r0, .inr (2, [.ref a4])), (a4, .inl (cI, 201, .inl mo))] sz rv [(h, .inr (3, [.ref e0, .ref r0])), (e0, .inr (0, [.ref a1, .ref a2, .ref a3, .int o_cn])), (a1, .inl (cI, 32, .inl o_qs)), (a2, .inl (cI, 33, .inl o_ts)), (a3, .inl (cI, 33, .inl o_bs)), (r0, .inr (2, [.ref a4])), (a4, .inl (cI, 201, .inl mo))] 0 0 := by
  refine Met.ofW (cc := cX3_between) (maxL := 5) (ret := (some .int)) (by decide) rfl ?_
  intro p e s m args below meth c s₁ B hml hv
  obtain ⟨rfl, hsz, hP, hK, hD0⟩ := hv
  have hx := B.exec
  have hb := B.bytes
  have hr := B.returns
  have hts := atoms_spec (ws := wsX3_between) B.pre
  have hown : s.vm.findClass RX3 = some m.cls := findClass_of_methodNamed B.named
  have hlocks := B.notSynchronized
  subst hsz
  have hD := hD0.self (sz := s.heap.size)
  generalize hAe : va_A [(h, .inr (3, [.ref e0, .ref r0])), (e0, .inr (0, [.ref a1, .ref a2, .ref a3, .int cn])), (a1, .inl (cI, 32, .inl qs)), (a2, .inl (cI, 33, .inl ts)), (a3, .inl (cI, 33, .inl bs)), (r0, .inr (2, [.ref a4])), (a4, .inl (cI, 201, .inl mo))] s.heap.size = A at hD ⊢
  have hA : ∀ q : Nat, s.heap.size ≤ q → A q := fun q h => by rw [← hAe]; exact Or.inr h
  have hS : va_S A s.heap s.heap [] := va_S.rf
  have w0 := hts (.fieldLink RX3 10 "SternDesk" "hand" "LSternDesk$Expansion;") (by decide +kernel)
  have hinX3 : ∀ w ∈ u_ws RX3 TX3 2, w ∈ wsX3_between := by decide +kernel
  obtain ⟨Qf, hQf⟩ : ∃ f : (Int32 × (Nat → Int32) × (Nat → Int32) × (Nat → Int32) × Int32) → State → Prop, f = fun z => MQ below (va_Qi (fun (r : Int32) (_ : Unit) => r = z.1) (fun _ t => va_P G vwCl [(h, .inr (3, [.ref e0, .ref r0])), (e0, .inr (0, [.ref a1, .ref a2, .ref a3, .int z.2.2.2.2])), (a1, .inl (cI, 32, .inl z.2.1)), (a2, .inl (cI, 33, .inl z.2.2.1)), (a3, .inl (cI, 33, .inl z.2.2.2.1)), (r0, .inr (2, [.ref a4])), (a4, .inl (cI, 201, .inl mo))] t.heap ∧ va_D A [(h, .inr (3, [.ref e0, .ref r0])), (e0, .inr (0, [.ref a1, .ref a2, .ref a3, .int z.2.2.2.2])), (a1, .inl (cI, 32, .inl z.2.1)), (a2, .inl (cI, 33, .inl z.2.2.1)), (a3, .inl (cI, 33, .inl z.2.2.2.1)), (r0, .inr (2, [.ref a4])), (a4, .inl (cI, 201, .inl mo))]) A) ([.ref h, .int p1, .int p2, .int p3, .int p4].toArray) s 0 0 A := ⟨_, rfl⟩
  suffices hgo : W p l e (headSpec wsX3_between ({ frames := 3, cells := 0, slots := 0, locals := 72 })).room s m ([.ref h, .int p1, .int p2, .int p3, .int p4].toArray) below meth c s.heap [] 0 0 (Qf (rv, o_qs, o_ts, o_bs, o_cn)) (entryFrame m ([.ref h, .int p1, .int p2, .int p3, .int p4].toArray) 5) by rw [hQf] at hgo; exact hgo
  have hl := lv_entry ([.ref h, .int p1, .int p2, .int p3, .int p4]) (n := 5) (Nat.le_of_ble_eq_true rfl)
  rw [lg_entry_eq]
  generalize (lg_sl ([.ref h, .int p1, .int p2, .int p3, .int p4]) ++ List.replicate (5 - (lg_sl ([.ref h, .int p1, .int p2, .int p3, .int p4])).length) Slot.unset).toArray = ls at hl ⊢
  have hl : lv_has ls 5 [(0, .ref h), (1, .int p1), (2, .int p2), (3, .int p3), (4, .int p4)] := hl
  unfold fX3_between at hf
  refine lv_iload_n hx hb dX3_between_0 rfl (lv_at hl 1 rfl) ?_
  refine lv_iconst (v := 0) hx hb dX3_between_1 (by decide) ?_
  refine lv_sipush (v := 5000) hx hb dX3_between_2 (by decide) ?_
  obtain ⟨r5, hv5, hf⟩ := bd1_s hf
  refine roSi (As := [.int p1, .int 0, .int 5000]) (rest := []) ⟨hx, hb, hml, hown, hts⟩ (zX3_isWithin l G cI _ p1 0 5000 hv5) (va_cwS 3 hts gX3_between_X3_isWithin rfl rfl rfl (by decide +kernel) ⟨Nat.le_of_ble_eq_true rfl, Nat.le_of_ble_eq_true rfl⟩) hK hP rfl hl.1 rfl (Nat.le_of_ble_eq_true rfl) dX3_between_5 ⟨Nat.le_of_ble_eq_true rfl, Nat.le_of_ble_eq_true rfl⟩ hS hA (fun H locs hP hz5 hS => ?_)
  refine lv_if_eq (tgt := 45) hx hb dX3_between_8 (by decide) (fun c8 => ?_) (fun c8 => ?_)
  · have hf := it_t c8 hf
    cases hf
  · have hf := it_f c8 hf
    refine lv_iload_n hx hb dX3_between_11 rfl (lv_at hl 2 rfl) ?_
    refine lv_iconst (v := 1) hx hb dX3_between_12 (by decide) ?_
    refine lv_sipush (v := 5000) hx hb dX3_between_13 (by decide) ?_
    obtain ⟨r16, hv16, hf⟩ := bd1_s hf
    refine roSi (As := [.int p2, .int 1, .int 5000]) (rest := []) ⟨hx, hb, hml, hown, hts⟩ (zX3_isWithin l G cI _ p2 1 5000 hv16) (va_cwS 3 hts gX3_between_X3_isWithin rfl rfl rfl (by decide +kernel) ⟨Nat.le_of_ble_eq_true rfl, Nat.le_of_ble_eq_true rfl⟩) hK hP rfl hl.1 rfl (Nat.le_of_ble_eq_true rfl) dX3_between_16 ⟨Nat.le_of_ble_eq_true rfl, Nat.le_of_ble_eq_true rfl⟩ hS hA (fun H locs hP hz16 hS => ?_)
    refine lv_if_eq (tgt := 45) hx hb dX3_between_19 (by decide) (fun c19 => ?_) (fun c19 => ?_)
    · have hf := it_t c19 hf
      cases hf
    · have hf := it_f c19 hf
      refine lv_iload_n hx hb dX3_between_22 rfl (lv_at hl 3 rfl) ?_
      refine lv_iconst (v := 0) hx hb dX3_between_23 (by decide) ?_
      refine lv_sipush (v := 5000) hx hb dX3_between_24 (by decide) ?_
      obtain ⟨r27, hv27, hf⟩ := bd1_s hf
      refine roSi (As := [.int p3, .int 0, .int 5000]) (rest := []) ⟨hx, hb, hml, hown, hts⟩ (zX3_isWithin l G cI _ p3 0 5000 hv27) (va_cwS 3 hts gX3_between_X3_isWithin rfl rfl rfl (by decide +kernel) ⟨Nat.le_of_ble_eq_true rfl, Nat.le_of_ble_eq_true rfl⟩) hK hP rfl hl.1 rfl (Nat.le_of_ble_eq_true rfl) dX3_between_27 ⟨Nat.le_of_ble_eq_true rfl, Nat.le_of_ble_eq_true rfl⟩ hS hA (fun H locs hP hz27 hS => ?_)
      refine lv_if_eq (tgt := 45) hx hb dX3_between_30 (by decide) (fun c30 => ?_) (fun c30 => ?_)
      · have hf := it_t c30 hf
        cases hf
      · have hf := it_f c30 hf
        refine lv_iload hx hb dX3_between_33 (lv_at hl 4 rfl) ?_
        refine lv_iconst (v := 1) hx hb dX3_between_35 (by decide) ?_
        refine lv_sipush (v := 5000) hx hb dX3_between_36 (by decide) ?_
        obtain ⟨r39, hv39, hf⟩ := bd1_s hf
        refine roSi (As := [.int p4, .int 1, .int 5000]) (rest := []) ⟨hx, hb, hml, hown, hts⟩ (zX3_isWithin l G cI _ p4 1 5000 hv39) (va_cwS 3 hts gX3_between_X3_isWithin rfl rfl rfl (by decide +kernel) ⟨Nat.le_of_ble_eq_true rfl, Nat.le_of_ble_eq_true rfl⟩) hK hP rfl hl.1 rfl (Nat.le_of_ble_eq_true rfl) dX3_between_39 ⟨Nat.le_of_ble_eq_true rfl, Nat.le_of_ble_eq_true rfl⟩ hS hA (fun H locs hP hz39 hS => ?_)
        refine lv_if_ne (tgt := 55) hx hb dX3_between_42 (by decide) (fun c42 => ?_) (fun c42 => ?_)
        · have hf := it_f c42 hf
          refine lv_iload_n hx hb dX3_between_55 rfl (lv_at hl 1 rfl) ?_
          refine lv_iload hx hb dX3_between_56 (lv_at hl 4 rfl) ?_
          refine lv_imul hx hb dX3_between_58 ?_
          refine lv_iload_n hx hb dX3_between_59 rfl (lv_at hl 3 rfl) ?_
          refine lv_iload_n hx hb dX3_between_60 rfl (lv_at hl 2 rfl) ?_
          refine lv_imul hx hb dX3_between_61 ?_
          refine lv_icmp_lt (tgt := 67) hx hb dX3_between_62 (by decide) (fun c62 => ?_) (fun c62 => ?_)
          · have hf := it_t c62 hf
            refine lv_aload_n hx hb dX3_between_67 rfl (lv_at hl 0 rfl) ?_
            refine va_get (D := G) (ci := 3) (v := .ref e0) (C := RX3) (T := TX3) (N := 2) hx hb hts hinX3 hown hK.1 hP 0 rfl rfl 0 (by decide) w0 (fun _ h9 => h9) rfl dX3_between_68 ?_
            refine lv_iload_n hx hb dX3_between_71 rfl (lv_at hl 1 rfl) ?_
            refine lv_iload_n hx hb dX3_between_72 rfl (lv_at hl 2 rfl) ?_
            refine lv_iload_n hx hb dX3_between_73 rfl (lv_at hl 3 rfl) ?_
            refine lv_iload hx hb dX3_between_74 (lv_at hl 4 rfl) ?_
            obtain ⟨qs_76, ts_76, bs_76, cn_76, hv76, hf⟩ := bd4_s hf
            refine mcVv (As := [.int p1, .int p2, .int p3, .int p4]) (rest := []) (wr := [(h, .inr (3, [.ref e0, .ref r0])), (r0, .inr (2, [.ref a4])), (a4, .inl (cI, 201, .inl mo))]) (wc := [(e0, .inr (0, [.ref a1, .ref a2, .ref a3, .int cn])), (a1, .inl (cI, 32, .inl qs)), (a2, .inl (cI, 33, .inl ts)), (a3, .inl (cI, 33, .inl bs))]) ⟨hx, hb, hml, hown, hts⟩ (zX0_expandSimplest l G cI _ e0 a1 a2 a3 qs ts bs cn p1 p2 p3 p4 hv76) (cwV 4 hts gX3_between_X0_expandSimplest rfl rfl rfl (by decide +kernel) ⟨Nat.le_of_ble_eq_true rfl, Nat.le_of_ble_eq_true rfl⟩) hK hP hD [1, 2, 3, 4] [0, 5, 6] rfl rfl rfl (by decide) (by decide) (by decide) rfl rfl rfl hl.1 rfl (Nat.le_of_ble_eq_true rfl) dX3_between_76 ⟨Nat.le_of_ble_eq_true rfl, Nat.le_of_ble_eq_true rfl⟩ hS hA (fun H locs hP hD hz76 hS => ?_)
            have hP : va_P G vwCl [(h, .inr (3, [.ref e0, .ref r0])), (e0, .inr (0, [.ref a1, .ref a2, .ref a3, .int cn_76])), (a1, .inl (cI, 32, .inl qs_76)), (a2, .inl (cI, 33, .inl ts_76)), (a3, .inl (cI, 33, .inl bs_76)), (r0, .inr (2, [.ref a4])), (a4, .inl (cI, 201, .inl mo))] H := hP.sub [0, 3, 4, 5, 6, 1, 2] rfl
            have hD : va_D A [(h, .inr (3, [.ref e0, .ref r0])), (e0, .inr (0, [.ref a1, .ref a2, .ref a3, .int cn_76])), (a1, .inl (cI, 32, .inl qs_76)), (a2, .inl (cI, 33, .inl ts_76)), (a3, .inl (cI, 33, .inl bs_76)), (r0, .inr (2, [.ref a4])), (a4, .inl (cI, 201, .inl mo))] := hD.sub [0, 3, 4, 5, 6, 1, 2] (by decide) rfl
            refine lv_iconst (v := 1) hx hb dX3_between_79 (by decide) ?_
            refine qf_s (Qf := Qf) hf ?_
            have hP9 : va_P G vwCl [(h, .inr (3, [.ref e0, .ref r0])), (e0, .inr (0, [.ref a1, .ref a2, .ref a3, .int cn_76])), (a1, .inl (cI, 32, .inl qs_76)), (a2, .inl (cI, 33, .inl ts_76)), (a3, .inl (cI, 33, .inl bs_76)), (r0, .inr (2, [.ref a4])), (a4, .inl (cI, 201, .inl mo))] _ := hP.sub [0, 1, 2, 3, 4, 5, 6] rfl
            have hD9 : va_D A [(h, .inr (3, [.ref e0, .ref r0])), (e0, .inr (0, [.ref a1, .ref a2, .ref a3, .int cn_76])), (a1, .inl (cI, 32, .inl qs_76)), (a2, .inl (cI, 33, .inl ts_76)), (a3, .inl (cI, 33, .inl bs_76)), (r0, .inr (2, [.ref a4])), (a4, .inl (cI, 201, .inl mo))] := hD.sub [0, 1, 2, 3, 4, 5, 6] (by decide) rfl
            rw [hQf]
            exact W.iret hx hb hr (fun t ht hW => ⟨⟨_, (), rfl, rfl, by rw [ht]; exact hP9, hD9⟩, hS.F ht⟩) hS.2.2 dX3_between_80
          · have hf := it_f c62 hf
            refine lv_iconst (v := 0) hx hb dX3_between_65 (by decide) ?_
            refine qf_s (Qf := Qf) hf ?_
            have hP9 : va_P G vwCl [(h, .inr (3, [.ref e0, .ref r0])), (e0, .inr (0, [.ref a1, .ref a2, .ref a3, .int cn])), (a1, .inl (cI, 32, .inl qs)), (a2, .inl (cI, 33, .inl ts)), (a3, .inl (cI, 33, .inl bs)), (r0, .inr (2, [.ref a4])), (a4, .inl (cI, 201, .inl mo))] _ := hP.sub [0, 1, 2, 3, 4, 5, 6] rfl
            have hD9 : va_D A [(h, .inr (3, [.ref e0, .ref r0])), (e0, .inr (0, [.ref a1, .ref a2, .ref a3, .int cn])), (a1, .inl (cI, 32, .inl qs)), (a2, .inl (cI, 33, .inl ts)), (a3, .inl (cI, 33, .inl bs)), (r0, .inr (2, [.ref a4])), (a4, .inl (cI, 201, .inl mo))] := hD.sub [0, 1, 2, 3, 4, 5, 6] (by decide) rfl
            rw [hQf]
            exact W.iret hx hb hr (fun t ht hW => ⟨⟨_, (), rfl, rfl, by rw [ht]; exact hP9, hD9⟩, hS.F ht⟩) hS.2.2 dX3_between_66
        · have hf := it_t c42 hf
          cases hf
def tX3_between (p1 : Int32) (p2 : Int32) (p3 : Int32) (p4 : Int32) : Option Unit :=
  bd1 (fX3_isWithin p1 0 5000) fun r5 =>
  if r5 = 0 then
    some ()
  else
    bd1 (fX3_isWithin p2 1 5000) fun r16 =>
    if r16 = 0 then
      some ()
    else
      bd1 (fX3_isWithin p3 0 5000) fun r27 =>
      if r27 = 0 then
        some ()
      else
        bd1 (fX3_isWithin p4 1 5000) fun r39 =>
        if r39 = 0 then
          some ()
        else
          none
set_option maxHeartbeats 4000000 in
set_option maxRecDepth 100000 in
theorem uX3_between (l : Launch) (hl0 : l.stackTraces = false) (G : va_G) (cI : ClassId) (sz : Nat) (h : Nat) (p1 : Int32) (p2 : Int32) (p3 : Int32) (p4 : Int32) (hf : tX3_between p1 p2 p3 p4 = some ()) : mTi l yX3_between wsX3_between ({ frames := 6, cells := 1, slots := 6, locals := 82 }) [.ref h, .int p1, .int p2, .int p3, .int p4] G cI 105 "tops must be 0 .. 5000, bottoms 1 .. 5000" [] sz := by
  refine vx_ofW (cc := cX3_between) (maxL := 5) (ret := (some .int)) (by decide) rfl ?_
  intro p e s m args below meth c s₁ B hml htb hv
  obtain ⟨rfl, hsz, hP, hK, ⟨⟨sa, hstr⟩, hcs⟩, hZ⟩ := hv
  have hx := B.exec
  have hb := B.bytes
  have hr := B.returns
  have hts := atoms_spec (ws := wsX3_between) B.pre
  have hown : s.vm.findClass RX3 = some m.cls := findClass_of_methodNamed B.named
  have hlocks := B.notSynchronized
  subst hsz
  generalize hAe : va_A [] s.heap.size = A at hZ ⊢
  have hA : ∀ q : Nat, s.heap.size ≤ q → A q := fun q h => by rw [← hAe]; exact Or.inr h
  have hS : va_S A s.heap s.heap [] := va_S.rf
  have w0 := hts (.classLink RX3 32 "java/lang/IllegalArgumentException") (by decide +kernel)
  have w1 := hts (.initialized "java/lang/IllegalArgumentException") (by decide +kernel)
  have hl := lv_entry ([.ref h, .int p1, .int p2, .int p3, .int p4]) (n := 5) (Nat.le_of_ble_eq_true rfl)
  rw [lg_entry_eq]
  generalize (lg_sl ([.ref h, .int p1, .int p2, .int p3, .int p4]) ++ List.replicate (5 - (lg_sl ([.ref h, .int p1, .int p2, .int p3, .int p4])).length) Slot.unset).toArray = ls at hl ⊢
  have hl : lv_has ls 5 [(0, .ref h), (1, .int p1), (2, .int p2), (3, .int p3), (4, .int p4)] := hl
  unfold tX3_between at hf
  refine lv_iload_n hx hb dX3_between_0 rfl (lv_at hl 1 rfl) ?_
  refine lv_iconst (v := 0) hx hb dX3_between_1 (by decide) ?_
  refine lv_sipush (v := 5000) hx hb dX3_between_2 (by decide) ?_
  obtain ⟨r5, hv5, hf⟩ := bd1_s hf
  refine roSi (As := [.int p1, .int 0, .int 5000]) (rest := []) ⟨hx, hb, hml, hown, hts⟩ (zX3_isWithin l G cI _ p1 0 5000 hv5) (va_cwS 3 hts gX3_between_X3_isWithin rfl rfl rfl (by decide +kernel) ⟨Nat.le_of_ble_eq_true rfl, Nat.le_of_ble_eq_true rfl⟩) hK hP rfl hl.1 rfl (Nat.le_of_ble_eq_true rfl) dX3_between_5 ⟨Nat.le_of_ble_eq_true rfl, Nat.le_of_ble_eq_true rfl⟩ hS hA (fun H locs hP hz5 hS => ?_)
  refine lv_if_eq (tgt := 45) hx hb dX3_between_8 (by decide) (fun c8 => ?_) (fun c8 => ?_)
  · have hf := it_t c8 hf
    exact thX3 hx hb hl0 hown w0 w1 hstr hcs (fun w hw => hts w (List.mem_cons_of_mem _ (List.mem_append_right _ hw))) hZ hS (by rw [hml]; exact hl.1) dX3_between_45 dX3_between_48 dX3_between_49 dX3_between_51 dX3_between_54 (fun x hx => (htb x hx).elim) (Nat.le_of_ble_eq_true rfl) (Nat.le_of_ble_eq_true rfl) (Nat.le_of_ble_eq_true rfl) (Nat.le_of_ble_eq_true rfl) hlocks (fun t ht1 ht2 ht3 => ⟨(), trivial, rfl, Nat.le_trans hS.1 ht2, fun q h1 h2 => (ht3 q (Nat.lt_of_lt_of_le h1 hS.1)).trans (hS.2.1 q h1 (by rw [← hAe]; exact h2))⟩) hS.2.2 (Nat.le_of_ble_eq_true rfl) (Nat.le_of_ble_eq_true rfl)
  · have hf := it_f c8 hf
    refine lv_iload_n hx hb dX3_between_11 rfl (lv_at hl 2 rfl) ?_
    refine lv_iconst (v := 1) hx hb dX3_between_12 (by decide) ?_
    refine lv_sipush (v := 5000) hx hb dX3_between_13 (by decide) ?_
    obtain ⟨r16, hv16, hf⟩ := bd1_s hf
    refine roSi (As := [.int p2, .int 1, .int 5000]) (rest := []) ⟨hx, hb, hml, hown, hts⟩ (zX3_isWithin l G cI _ p2 1 5000 hv16) (va_cwS 3 hts gX3_between_X3_isWithin rfl rfl rfl (by decide +kernel) ⟨Nat.le_of_ble_eq_true rfl, Nat.le_of_ble_eq_true rfl⟩) hK hP rfl hl.1 rfl (Nat.le_of_ble_eq_true rfl) dX3_between_16 ⟨Nat.le_of_ble_eq_true rfl, Nat.le_of_ble_eq_true rfl⟩ hS hA (fun H locs hP hz16 hS => ?_)
    refine lv_if_eq (tgt := 45) hx hb dX3_between_19 (by decide) (fun c19 => ?_) (fun c19 => ?_)
    · have hf := it_t c19 hf
      exact thX3 hx hb hl0 hown w0 w1 hstr hcs (fun w hw => hts w (List.mem_cons_of_mem _ (List.mem_append_right _ hw))) hZ hS (by rw [hml]; exact hl.1) dX3_between_45 dX3_between_48 dX3_between_49 dX3_between_51 dX3_between_54 (fun x hx => (htb x hx).elim) (Nat.le_of_ble_eq_true rfl) (Nat.le_of_ble_eq_true rfl) (Nat.le_of_ble_eq_true rfl) (Nat.le_of_ble_eq_true rfl) hlocks (fun t ht1 ht2 ht3 => ⟨(), trivial, rfl, Nat.le_trans hS.1 ht2, fun q h1 h2 => (ht3 q (Nat.lt_of_lt_of_le h1 hS.1)).trans (hS.2.1 q h1 (by rw [← hAe]; exact h2))⟩) hS.2.2 (Nat.le_of_ble_eq_true rfl) (Nat.le_of_ble_eq_true rfl)
    · have hf := it_f c19 hf
      refine lv_iload_n hx hb dX3_between_22 rfl (lv_at hl 3 rfl) ?_
      refine lv_iconst (v := 0) hx hb dX3_between_23 (by decide) ?_
      refine lv_sipush (v := 5000) hx hb dX3_between_24 (by decide) ?_
      obtain ⟨r27, hv27, hf⟩ := bd1_s hf
      refine roSi (As := [.int p3, .int 0, .int 5000]) (rest := []) ⟨hx, hb, hml, hown, hts⟩ (zX3_isWithin l G cI _ p3 0 5000 hv27) (va_cwS 3 hts gX3_between_X3_isWithin rfl rfl rfl (by decide +kernel) ⟨Nat.le_of_ble_eq_true rfl, Nat.le_of_ble_eq_true rfl⟩) hK hP rfl hl.1 rfl (Nat.le_of_ble_eq_true rfl) dX3_between_27 ⟨Nat.le_of_ble_eq_true rfl, Nat.le_of_ble_eq_true rfl⟩ hS hA (fun H locs hP hz27 hS => ?_)
      refine lv_if_eq (tgt := 45) hx hb dX3_between_30 (by decide) (fun c30 => ?_) (fun c30 => ?_)
      · have hf := it_t c30 hf
        exact thX3 hx hb hl0 hown w0 w1 hstr hcs (fun w hw => hts w (List.mem_cons_of_mem _ (List.mem_append_right _ hw))) hZ hS (by rw [hml]; exact hl.1) dX3_between_45 dX3_between_48 dX3_between_49 dX3_between_51 dX3_between_54 (fun x hx => (htb x hx).elim) (Nat.le_of_ble_eq_true rfl) (Nat.le_of_ble_eq_true rfl) (Nat.le_of_ble_eq_true rfl) (Nat.le_of_ble_eq_true rfl) hlocks (fun t ht1 ht2 ht3 => ⟨(), trivial, rfl, Nat.le_trans hS.1 ht2, fun q h1 h2 => (ht3 q (Nat.lt_of_lt_of_le h1 hS.1)).trans (hS.2.1 q h1 (by rw [← hAe]; exact h2))⟩) hS.2.2 (Nat.le_of_ble_eq_true rfl) (Nat.le_of_ble_eq_true rfl)
      · have hf := it_f c30 hf
        refine lv_iload hx hb dX3_between_33 (lv_at hl 4 rfl) ?_
        refine lv_iconst (v := 1) hx hb dX3_between_35 (by decide) ?_
        refine lv_sipush (v := 5000) hx hb dX3_between_36 (by decide) ?_
        obtain ⟨r39, hv39, hf⟩ := bd1_s hf
        refine roSi (As := [.int p4, .int 1, .int 5000]) (rest := []) ⟨hx, hb, hml, hown, hts⟩ (zX3_isWithin l G cI _ p4 1 5000 hv39) (va_cwS 3 hts gX3_between_X3_isWithin rfl rfl rfl (by decide +kernel) ⟨Nat.le_of_ble_eq_true rfl, Nat.le_of_ble_eq_true rfl⟩) hK hP rfl hl.1 rfl (Nat.le_of_ble_eq_true rfl) dX3_between_39 ⟨Nat.le_of_ble_eq_true rfl, Nat.le_of_ble_eq_true rfl⟩ hS hA (fun H locs hP hz39 hS => ?_)
        refine lv_if_ne (tgt := 55) hx hb dX3_between_42 (by decide) (fun c42 => ?_) (fun c42 => ?_)
        · have hf := it_f c42 hf
          cases hf
        · have hf := it_t c42 hf
          exact thX3 hx hb hl0 hown w0 w1 hstr hcs (fun w hw => hts w (List.mem_cons_of_mem _ (List.mem_append_right _ hw))) hZ hS (by rw [hml]; exact hl.1) dX3_between_45 dX3_between_48 dX3_between_49 dX3_between_51 dX3_between_54 (fun x hx => (htb x hx).elim) (Nat.le_of_ble_eq_true rfl) (Nat.le_of_ble_eq_true rfl) (Nat.le_of_ble_eq_true rfl) (Nat.le_of_ble_eq_true rfl) hlocks (fun t ht1 ht2 ht3 => ⟨(), trivial, rfl, Nat.le_trans hS.1 ht2, fun q h1 h2 => (ht3 q (Nat.lt_of_lt_of_le h1 hS.1)).trans (hS.2.1 q h1 (by rw [← hAe]; exact h2))⟩) hS.2.2 (Nat.le_of_ble_eq_true rfl) (Nat.le_of_ble_eq_true rfl)

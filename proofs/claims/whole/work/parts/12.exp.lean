def fX0_neighbourAt (ts : Nat → Int32) (bs : Nat → Int32) (cn : Int32) (p1 : Int32) : Option (Int32 × Int32) :=
  ckZ 2 <|
  if p1 = (cn - cn / 2 * 2) then
    bd1 (fX0_topBefore ts cn) fun r15 =>
    bd1 (fX0_bottomBefore bs cn) fun r19 =>
    bd2 (fX1_init 0 0 r15 r19) fun ft_22 fb_22 =>
    some (ft_22, fb_22)
  else
    bd1 (fX0_top ts cn) fun r31 =>
    bd1 (fX0_topBefore ts cn) fun r35 =>
    bd1 (fX0_bottom bs cn) fun r40 =>
    bd1 (fX0_bottomBefore bs cn) fun r44 =>
    bd2 (fX1_init 0 0 (r31 - r35) (r40 - r44)) fun ft_48 fb_48 =>
    some (ft_48, fb_48)
set_option maxHeartbeats 4000000 in
set_option maxRecDepth 100000 in
theorem zX0_neighbourAt (l : Launch) (G : va_G) (cI : ClassId) (sz : Nat) (h a1 a2 a3 : Nat) (qs : Nat → Int32) (ts : Nat → Int32) (bs : Nat → Int32) (cn : Int32) (p1 : Int32) {rv1 : Int32} {rv2 : Int32} (hf : fX0_neighbourAt ts bs cn p1 = some (rv1, rv2)) : mNr l yX0_neighbourAt wsX0_neighbourAt ({ frames := 2, cells := 1, slots := 2, locals := 34 }) [.ref h, .int p1] G cI [(h, .inr (0, [.ref a1, .ref a2, .ref a3, .int cn])), (a1, .inl (cI, 32, .inl qs)), (a2, .inl (cI, 33, .inl ts)), (a3, .inl (cI, 33, .inl bs))] sz (.inr (1, [.int rv1, .int rv2])) 1 2 := by
  refine Met.ofW (cc := cX0_neighbourAt) (maxL := 2) (ret := (some (.object "SternDesk$Fraction"))) (by decide) rfl ?_
  intro p e s m args below meth c s₁ B hml hv
  obtain ⟨rfl, hsz, hP, hK, hD0⟩ := hv
  have hx := B.exec
  have hb := B.bytes
  have hr := B.returns
  have hts := atoms_spec (ws := wsX0_neighbourAt) B.pre
  have hown : s.vm.findClass RX0 = some m.cls := findClass_of_methodNamed B.named
  have hlocks := B.notSynchronized
  subst hsz
  have hD := hD0.self (sz := s.heap.size)
  generalize hAe : va_A [(h, .inr (0, [.ref a1, .ref a2, .ref a3, .int cn])), (a1, .inl (cI, 32, .inl qs)), (a2, .inl (cI, 33, .inl ts)), (a3, .inl (cI, 33, .inl bs))] s.heap.size = A at hD ⊢
  have hA : ∀ q : Nat, s.heap.size ≤ q → A q := fun q h => by rw [← hAe]; exact Or.inr h
  have hS : va_S A s.heap s.heap [] := va_S.rf
  have w0 := hts (.fieldLink RX0 21 "SternDesk$Expansion" "count" "I") (by decide +kernel)
  have hinX0 : ∀ w ∈ u_ws RX0 TX0 4, w ∈ wsX0_neighbourAt := by decide +kernel
  have hinX1 : ∀ w ∈ u_ws RX1 TX1 2, w ∈ wsX0_neighbourAt := by decide +kernel
  have w3 := hts (.classLink RX0 48 RX1) (by decide +kernel)
  have w4 := hts (.instantiable RX1 2) (by decide +kernel)
  have w5 := hts (.initialized RX1) (by decide +kernel)
  have w6 := hts (.methodLink RX0 50 yX1_init) (by decide +kernel)
  have w7 := hts (.instanceMethod yX1_init) (by decide +kernel)
  obtain ⟨Qf, hQf⟩ : ∃ f : (Int32 × Int32) → State → Prop, f = fun z => MQ below (va_Qr (fun (_ : Unit) => True) (fun _ a t => va_P G vwCl ([(h, .inr (0, [.ref a1, .ref a2, .ref a3, .int cn])), (a1, .inl (cI, 32, .inl qs)), (a2, .inl (cI, 33, .inl ts)), (a3, .inl (cI, 33, .inl bs))] ++ [(a, .inr (1, [.int z.1, .int z.2]))]) t.heap ∧ va_D A ([(h, .inr (0, [.ref a1, .ref a2, .ref a3, .int cn])), (a1, .inl (cI, 32, .inl qs)), (a2, .inl (cI, 33, .inl ts)), (a3, .inl (cI, 33, .inl bs))] ++ [(a, .inr (1, [.int z.1, .int z.2]))])) A) ([.ref h, .int p1].toArray) s 1 2 A := ⟨_, rfl⟩
  suffices hgo : W p l e (headSpec wsX0_neighbourAt ({ frames := 2, cells := 1, slots := 2, locals := 34 })).room s m ([.ref h, .int p1].toArray) below meth c s.heap [] 0 0 (Qf (rv1, rv2)) (entryFrame m ([.ref h, .int p1].toArray) 2) by rw [hQf] at hgo; exact hgo
  have hl := lv_entry ([.ref h, .int p1]) (n := 2) (Nat.le_of_ble_eq_true rfl)
  rw [lg_entry_eq]
  generalize (lg_sl ([.ref h, .int p1]) ++ List.replicate (2 - (lg_sl ([.ref h, .int p1])).length) Slot.unset).toArray = ls at hl ⊢
  have hl : lv_has ls 2 [(0, .ref h), (1, .int p1)] := hl
  unfold fX0_neighbourAt at hf
  refine lv_iload_n hx hb dX0_neighbourAt_0 rfl (lv_at hl 1 rfl) ?_
  refine lv_aload_n hx hb dX0_neighbourAt_1 rfl (lv_at hl 0 rfl) ?_
  refine va_get (D := G) (ci := 0) (v := .int cn) (C := RX0) (T := TX0) (N := 4) hx hb hts hinX0 hown hK.1 hP 0 rfl rfl 3 (by decide) w0 (fun _ h9 => h9) rfl dX0_neighbourAt_2 ?_
  refine lv_iconst (v := 2) hx hb dX0_neighbourAt_5 (by decide) ?_
  obtain ⟨hz6, hf⟩ := ckZ_s hf
  refine lv_irem hx hb dX0_neighbourAt_6 hz6 ?_
  refine lv_icmp_ne (tgt := 26) hx hb dX0_neighbourAt_7 (by decide) (fun c7 => ?_) (fun c7 => ?_)
  · have hf := it_f c7 hf
    refine va_new (ci := 1) (fs := [.int 0, .int 0]) (C := RX1) (T := TX1) (N := 2) hx hb hts hinX1 tyX1 tyX1_ok hown w3 w4 w5 hK.1 hP hD hS hA rfl (fun j hj => by rcases (show j = 0 ∨ j = 1 by omega) with rfl | rfl <;> rfl) (Nat.le_of_ble_eq_true rfl) (Nat.le_of_ble_eq_true rfl) dX0_neighbourAt_26 (fun q26 H hP hD hS => ?_)
    have hP : va_P G vwCl [(h, .inr (0, [.ref a1, .ref a2, .ref a3, .int cn])), (a1, .inl (cI, 32, .inl qs)), (a2, .inl (cI, 33, .inl ts)), (a3, .inl (cI, 33, .inl bs)), (q26, .inr (1, [.int 0, .int 0]))] H := hP
    have hD : va_D A [(h, .inr (0, [.ref a1, .ref a2, .ref a3, .int cn])), (a1, .inl (cI, 32, .inl qs)), (a2, .inl (cI, 33, .inl ts)), (a3, .inl (cI, 33, .inl bs)), (q26, .inr (1, [.int 0, .int 0]))] := hD
    refine lv_dup hx hb dX0_neighbourAt_29 rfl ?_
    refine lv_aload_n hx hb dX0_neighbourAt_30 rfl (lv_at hl 0 rfl) ?_
    obtain ⟨r31, hv31, hf⟩ := bd1_s hf
    refine roVi (As := []) (rest := [.ref q26, .ref q26]) ⟨hx, hb, hml, hown, hts⟩ (zX0_top l G cI _ h a1 a2 a3 qs ts bs cn  hv31) (cwV 0 hts gX0_neighbourAt_X0_top rfl rfl rfl (by decide +kernel) ⟨Nat.le_of_ble_eq_true rfl, Nat.le_of_ble_eq_true rfl⟩) hK hP (hP.sub [0, 1, 2, 3] rfl) rfl rfl rfl hl.1 rfl (Nat.le_of_ble_eq_true rfl) dX0_neighbourAt_31 ⟨Nat.le_of_ble_eq_true rfl, Nat.le_of_ble_eq_true rfl⟩ hS hA (fun H locs hP hz31 hS => ?_)
    refine lv_aload_n hx hb dX0_neighbourAt_34 rfl (lv_at hl 0 rfl) ?_
    obtain ⟨r35, hv35, hf⟩ := bd1_s hf
    refine roVi (As := []) (rest := [.int r31, .ref q26, .ref q26]) ⟨hx, hb, hml, hown, hts⟩ (zX0_topBefore l G cI _ h a1 a2 a3 qs ts bs cn  hv35) (cwV 0 hts gX0_neighbourAt_X0_topBefore rfl rfl rfl (by decide +kernel) ⟨Nat.le_of_ble_eq_true rfl, Nat.le_of_ble_eq_true rfl⟩) hK hP (hP.sub [0, 1, 2, 3] rfl) rfl rfl rfl hl.1 rfl (Nat.le_of_ble_eq_true rfl) dX0_neighbourAt_35 ⟨Nat.le_of_ble_eq_true rfl, Nat.le_of_ble_eq_true rfl⟩ hS hA (fun H locs hP hz35 hS => ?_)
    refine lv_isub hx hb dX0_neighbourAt_38 ?_
    refine lv_aload_n hx hb dX0_neighbourAt_39 rfl (lv_at hl 0 rfl) ?_
    obtain ⟨r40, hv40, hf⟩ := bd1_s hf
    refine roVi (As := []) (rest := [.int (r31 - r35), .ref q26, .ref q26]) ⟨hx, hb, hml, hown, hts⟩ (zX0_bottom l G cI _ h a1 a2 a3 qs ts bs cn  hv40) (cwV 0 hts gX0_neighbourAt_X0_bottom rfl rfl rfl (by decide +kernel) ⟨Nat.le_of_ble_eq_true rfl, Nat.le_of_ble_eq_true rfl⟩) hK hP (hP.sub [0, 1, 2, 3] rfl) rfl rfl rfl hl.1 rfl (Nat.le_of_ble_eq_true rfl) dX0_neighbourAt_40 ⟨Nat.le_of_ble_eq_true rfl, Nat.le_of_ble_eq_true rfl⟩ hS hA (fun H locs hP hz40 hS => ?_)
    refine lv_aload_n hx hb dX0_neighbourAt_43 rfl (lv_at hl 0 rfl) ?_
    obtain ⟨r44, hv44, hf⟩ := bd1_s hf
    refine roVi (As := []) (rest := [.int r40, .int (r31 - r35), .ref q26, .ref q26]) ⟨hx, hb, hml, hown, hts⟩ (zX0_bottomBefore l G cI _ h a1 a2 a3 qs ts bs cn  hv44) (cwV 0 hts gX0_neighbourAt_X0_bottomBefore rfl rfl rfl (by decide +kernel) ⟨Nat.le_of_ble_eq_true rfl, Nat.le_of_ble_eq_true rfl⟩) hK hP (hP.sub [0, 1, 2, 3] rfl) rfl rfl rfl hl.1 rfl (Nat.le_of_ble_eq_true rfl) dX0_neighbourAt_44 ⟨Nat.le_of_ble_eq_true rfl, Nat.le_of_ble_eq_true rfl⟩ hS hA (fun H locs hP hz44 hS => ?_)
    refine lv_isub hx hb dX0_neighbourAt_47 ?_
    obtain ⟨ft_48, fb_48, hv48, hf⟩ := bd2_s hf
    refine mcIv (As := [.int (r31 - r35), .int (r40 - r44)]) (rest := [.ref q26]) (wr := [(h, .inr (0, [.ref a1, .ref a2, .ref a3, .int cn])), (a1, .inl (cI, 32, .inl qs)), (a2, .inl (cI, 33, .inl ts)), (a3, .inl (cI, 33, .inl bs))]) (wc := [(q26, .inr (1, [.int 0, .int 0]))]) ⟨hx, hb, hml, hown, hts⟩ (zX1_init l G cI _ q26 0 0 (r31 - r35) (r40 - r44) hv48) (cwI 2 hts gX0_neighbourAt_X1_init rfl rfl rfl w5 w6 w7 rfl (by decide +kernel) ⟨Nat.le_of_ble_eq_true rfl, Nat.le_of_ble_eq_true rfl⟩) hK hP hD [4] [0, 1, 2, 3] rfl rfl rfl (by decide) (by decide) (by decide) rfl hl.1 rfl (Nat.le_of_ble_eq_true rfl) dX0_neighbourAt_48 ⟨Nat.le_of_ble_eq_true rfl, Nat.le_of_ble_eq_true rfl⟩ hS hA (fun H locs hP hD hz48 hS => ?_)
    have hP : va_P G vwCl [(h, .inr (0, [.ref a1, .ref a2, .ref a3, .int cn])), (a1, .inl (cI, 32, .inl qs)), (a2, .inl (cI, 33, .inl ts)), (a3, .inl (cI, 33, .inl bs)), (q26, .inr (1, [.int ft_48, .int fb_48]))] H := hP
    have hD : va_D A [(h, .inr (0, [.ref a1, .ref a2, .ref a3, .int cn])), (a1, .inl (cI, 32, .inl qs)), (a2, .inl (cI, 33, .inl ts)), (a3, .inl (cI, 33, .inl bs)), (q26, .inr (1, [.int ft_48, .int fb_48]))] := hD
    refine qf_s (Qf := Qf) hf ?_
    refine W.widen (k := 1) (n := 2) (Nat.le_of_ble_eq_true rfl) (Nat.le_of_ble_eq_true rfl) ?_
    have hP9 : va_P G vwCl [(h, .inr (0, [.ref a1, .ref a2, .ref a3, .int cn])), (a1, .inl (cI, 32, .inl qs)), (a2, .inl (cI, 33, .inl ts)), (a3, .inl (cI, 33, .inl bs)), (q26, .inr (1, [.int ft_48, .int fb_48]))] _ := hP.sub [0, 1, 2, 3, 4] rfl
    have hD9 : va_D A [(h, .inr (0, [.ref a1, .ref a2, .ref a3, .int cn])), (a1, .inl (cI, 32, .inl qs)), (a2, .inl (cI, 33, .inl ts)), (a3, .inl (cI, 33, .inl bs)), (q26, .inr (1, [.int ft_48, .int fb_48]))] := hD.sub [0, 1, 2, 3, 4] (by decide) rfl
    rw [hQf]
    exact W.aret hx hb hr (Or.inl ⟨_, rfl⟩) (Or.inr ⟨_, rfl⟩) (fun t ht hW => ⟨⟨(), _, rfl, trivial, by rw [ht]; exact hP9, hD9⟩, hS.F ht⟩) hS.2.2 dX0_neighbourAt_51
  · have hf := it_t c7 hf
    refine va_new (ci := 1) (fs := [.int 0, .int 0]) (C := RX1) (T := TX1) (N := 2) hx hb hts hinX1 tyX1 tyX1_ok hown w3 w4 w5 hK.1 hP hD hS hA rfl (fun j hj => by rcases (show j = 0 ∨ j = 1 by omega) with rfl | rfl <;> rfl) (Nat.le_of_ble_eq_true rfl) (Nat.le_of_ble_eq_true rfl) dX0_neighbourAt_10 (fun q10 H hP hD hS => ?_)
    have hP : va_P G vwCl [(h, .inr (0, [.ref a1, .ref a2, .ref a3, .int cn])), (a1, .inl (cI, 32, .inl qs)), (a2, .inl (cI, 33, .inl ts)), (a3, .inl (cI, 33, .inl bs)), (q10, .inr (1, [.int 0, .int 0]))] H := hP
    have hD : va_D A [(h, .inr (0, [.ref a1, .ref a2, .ref a3, .int cn])), (a1, .inl (cI, 32, .inl qs)), (a2, .inl (cI, 33, .inl ts)), (a3, .inl (cI, 33, .inl bs)), (q10, .inr (1, [.int 0, .int 0]))] := hD
    refine lv_dup hx hb dX0_neighbourAt_13 rfl ?_
    refine lv_aload_n hx hb dX0_neighbourAt_14 rfl (lv_at hl 0 rfl) ?_
    obtain ⟨r15, hv15, hf⟩ := bd1_s hf
    refine roVi (As := []) (rest := [.ref q10, .ref q10]) ⟨hx, hb, hml, hown, hts⟩ (zX0_topBefore l G cI _ h a1 a2 a3 qs ts bs cn  hv15) (cwV 0 hts gX0_neighbourAt_X0_topBefore rfl rfl rfl (by decide +kernel) ⟨Nat.le_of_ble_eq_true rfl, Nat.le_of_ble_eq_true rfl⟩) hK hP (hP.sub [0, 1, 2, 3] rfl) rfl rfl rfl hl.1 rfl (Nat.le_of_ble_eq_true rfl) dX0_neighbourAt_15 ⟨Nat.le_of_ble_eq_true rfl, Nat.le_of_ble_eq_true rfl⟩ hS hA (fun H locs hP hz15 hS => ?_)
    refine lv_aload_n hx hb dX0_neighbourAt_18 rfl (lv_at hl 0 rfl) ?_
    obtain ⟨r19, hv19, hf⟩ := bd1_s hf
    refine roVi (As := []) (rest := [.int r15, .ref q10, .ref q10]) ⟨hx, hb, hml, hown, hts⟩ (zX0_bottomBefore l G cI _ h a1 a2 a3 qs ts bs cn  hv19) (cwV 0 hts gX0_neighbourAt_X0_bottomBefore rfl rfl rfl (by decide +kernel) ⟨Nat.le_of_ble_eq_true rfl, Nat.le_of_ble_eq_true rfl⟩) hK hP (hP.sub [0, 1, 2, 3] rfl) rfl rfl rfl hl.1 rfl (Nat.le_of_ble_eq_true rfl) dX0_neighbourAt_19 ⟨Nat.le_of_ble_eq_true rfl, Nat.le_of_ble_eq_true rfl⟩ hS hA (fun H locs hP hz19 hS => ?_)
    obtain ⟨ft_22, fb_22, hv22, hf⟩ := bd2_s hf
    refine mcIv (As := [.int r15, .int r19]) (rest := [.ref q10]) (wr := [(h, .inr (0, [.ref a1, .ref a2, .ref a3, .int cn])), (a1, .inl (cI, 32, .inl qs)), (a2, .inl (cI, 33, .inl ts)), (a3, .inl (cI, 33, .inl bs))]) (wc := [(q10, .inr (1, [.int 0, .int 0]))]) ⟨hx, hb, hml, hown, hts⟩ (zX1_init l G cI _ q10 0 0 r15 r19 hv22) (cwI 2 hts gX0_neighbourAt_X1_init rfl rfl rfl w5 w6 w7 rfl (by decide +kernel) ⟨Nat.le_of_ble_eq_true rfl, Nat.le_of_ble_eq_true rfl⟩) hK hP hD [4] [0, 1, 2, 3] rfl rfl rfl (by decide) (by decide) (by decide) rfl hl.1 rfl (Nat.le_of_ble_eq_true rfl) dX0_neighbourAt_22 ⟨Nat.le_of_ble_eq_true rfl, Nat.le_of_ble_eq_true rfl⟩ hS hA (fun H locs hP hD hz22 hS => ?_)
    have hP : va_P G vwCl [(h, .inr (0, [.ref a1, .ref a2, .ref a3, .int cn])), (a1, .inl (cI, 32, .inl qs)), (a2, .inl (cI, 33, .inl ts)), (a3, .inl (cI, 33, .inl bs)), (q10, .inr (1, [.int ft_22, .int fb_22]))] H := hP
    have hD : va_D A [(h, .inr (0, [.ref a1, .ref a2, .ref a3, .int cn])), (a1, .inl (cI, 32, .inl qs)), (a2, .inl (cI, 33, .inl ts)), (a3, .inl (cI, 33, .inl bs)), (q10, .inr (1, [.int ft_22, .int fb_22]))] := hD
    refine qf_s (Qf := Qf) hf ?_
    refine W.widen (k := 1) (n := 2) (Nat.le_of_ble_eq_true rfl) (Nat.le_of_ble_eq_true rfl) ?_
    have hP9 : va_P G vwCl [(h, .inr (0, [.ref a1, .ref a2, .ref a3, .int cn])), (a1, .inl (cI, 32, .inl qs)), (a2, .inl (cI, 33, .inl ts)), (a3, .inl (cI, 33, .inl bs)), (q10, .inr (1, [.int ft_22, .int fb_22]))] _ := hP.sub [0, 1, 2, 3, 4] rfl
    have hD9 : va_D A [(h, .inr (0, [.ref a1, .ref a2, .ref a3, .int cn])), (a1, .inl (cI, 32, .inl qs)), (a2, .inl (cI, 33, .inl ts)), (a3, .inl (cI, 33, .inl bs)), (q10, .inr (1, [.int ft_22, .int fb_22]))] := hD.sub [0, 1, 2, 3, 4] (by decide) rfl
    rw [hQf]
    exact W.aret hx hb hr (Or.inl ⟨_, rfl⟩) (Or.inr ⟨_, rfl⟩) (fun t ht hW => ⟨⟨(), _, rfl, trivial, by rw [ht]; exact hP9, hD9⟩, hS.F ht⟩) hS.2.2 dX0_neighbourAt_25
def fX0_isLowerNearer (ts : Nat → Int32) (bs : Nat → Int32) (cn : Int32) (lwt : Int32) (lwb : Int32) (upt : Int32) (upb : Int32) : Option (Int32) :=
  bd1 (fX0_top ts cn) fun r1 =>
  bd1 (fX0_bottom bs cn) fun r12 =>
  nm ((((Int32.toInt64 r1) * (Int32.toInt64 lwb)) - ((Int32.toInt64 r12) * (Int32.toInt64 lwt))) * (Int32.toInt64 upb)) fun v29 =>
  bd1 (fX0_bottom bs cn) fun r31 =>
  bd1 (fX0_top ts cn) fun r42 =>
  nm ((((Int32.toInt64 r31) * (Int32.toInt64 upt)) - ((Int32.toInt64 r42) * (Int32.toInt64 upb))) * (Int32.toInt64 lwb)) fun v59 =>
  if (lg_cmp v29 v59) < 0 then
    some 1
  else
    if (lg_cmp v29 v59) = 0 then
      if upb < lwb then
        some 0
      else
        some 1
    else
      some 0
set_option maxHeartbeats 4000000 in
set_option maxRecDepth 100000 in
theorem zX0_isLowerNearer (l : Launch) (G : va_G) (cI : ClassId) (sz : Nat) (h a1 a2 a3 e1 e2 : Nat) (qs : Nat → Int32) (ts : Nat → Int32) (bs : Nat → Int32) (cn : Int32) (lwt : Int32) (lwb : Int32) (upt : Int32) (upb : Int32) {rv : Int32} (hf : fX0_isLowerNearer ts bs cn lwt lwb upt upb = some rv) : mRi l yX0_isLowerNearer wsX0_isLowerNearer ({ frames := 1, cells := 0, slots := 0, locals := 20 }) [.ref h, .ref e1, .ref e2] G cI [(h, .inr (0, [.ref a1, .ref a2, .ref a3, .int cn])), (a1, .inl (cI, 32, .inl qs)), (a2, .inl (cI, 33, .inl ts)), (a3, .inl (cI, 33, .inl bs)), (e1, .inr (1, [.int lwt, .int lwb])), (e2, .inr (1, [.int upt, .int upb]))] sz rv := by
  refine Met.ofW (cc := cX0_isLowerNearer) (maxL := 7) (ret := (some .boolean)) (by decide) rfl ?_
  intro p e s m args below meth c s₁ B hml hv
  obtain ⟨rfl, hsz, hP, hK⟩ := hv
  have hx := B.exec
  have hb := B.bytes
  have hr := B.returns
  have hts := atoms_spec (ws := wsX0_isLowerNearer) B.pre
  have hown : s.vm.findClass RX0 = some m.cls := findClass_of_methodNamed B.named
  have hlocks := B.notSynchronized
  subst hsz
  generalize hAe : va_A [] s.heap.size = A
  have hA : ∀ q : Nat, s.heap.size ≤ q → A q := fun q h => by rw [← hAe]; exact Or.inr h
  have hS : va_S A s.heap s.heap [] := va_S.rf
  have w0 := hts (.fieldLink RX0 57 "SternDesk$Fraction" "bottom" "I") (by decide +kernel)
  have hinX1 : ∀ w ∈ u_ws RX1 TX1 2, w ∈ wsX0_isLowerNearer := by decide +kernel
  have w2 := hts (.fieldLink RX0 59 "SternDesk$Fraction" "top" "I") (by decide +kernel)
  obtain ⟨Qf, hQf⟩ : ∃ f : Int32 → State → Prop, f = fun z => MQ below (va_Qi (fun (r : Int32) (_ : Unit) => r = z) (fun _ _ => True) A) ([.ref h, .ref e1, .ref e2].toArray) s 0 0 A := ⟨_, rfl⟩
  suffices hgo : W p l e (headSpec wsX0_isLowerNearer ({ frames := 1, cells := 0, slots := 0, locals := 20 })).room s m ([.ref h, .ref e1, .ref e2].toArray) below meth c s.heap [] 0 0 (Qf rv) (entryFrame m ([.ref h, .ref e1, .ref e2].toArray) 7) by rw [hQf] at hgo; exact hgo
  have hl := lv_entry ([.ref h, .ref e1, .ref e2]) (n := 7) (Nat.le_of_ble_eq_true rfl)
  rw [lg_entry_eq]
  generalize (lg_sl ([.ref h, .ref e1, .ref e2]) ++ List.replicate (7 - (lg_sl ([.ref h, .ref e1, .ref e2])).length) Slot.unset).toArray = ls at hl ⊢
  have hl : lv_has ls 7 [(0, .ref h), (1, .ref e1), (2, .ref e2)] := hl
  unfold fX0_isLowerNearer at hf
  refine lv_aload_n hx hb dX0_isLowerNearer_0 rfl (lv_at hl 0 rfl) ?_
  obtain ⟨r1, hv1, hf⟩ := bd1_s hf
  refine roVi (As := []) (rest := []) ⟨hx, hb, hml, hown, hts⟩ (zX0_top l G cI _ h a1 a2 a3 qs ts bs cn  hv1) (cwV 0 hts gX0_isLowerNearer_X0_top rfl rfl rfl (by decide +kernel) ⟨Nat.le_of_ble_eq_true rfl, Nat.le_of_ble_eq_true rfl⟩) hK hP (hP.sub [0, 1, 2, 3] rfl) rfl rfl rfl hl.1 rfl (Nat.le_of_ble_eq_true rfl) dX0_isLowerNearer_1 ⟨Nat.le_of_ble_eq_true rfl, Nat.le_of_ble_eq_true rfl⟩ hS hA (fun H locs hP hz1 hS => ?_)
  refine lv_i2l hx hb dX0_isLowerNearer_4 rfl ?_
  refine lv_aload_n hx hb dX0_isLowerNearer_5 rfl (lv_at hl 1 rfl) ?_
  refine va_get (D := G) (ci := 1) (v := .int lwb) (C := RX1) (T := TX1) (N := 2) hx hb hts hinX1 hown hK.1 hP 4 rfl rfl 1 (by decide) w0 (fun _ h9 => h9) rfl dX0_isLowerNearer_6 ?_
  refine lv_i2l hx hb dX0_isLowerNearer_9 rfl ?_
  refine lv_lmul hx hb dX0_isLowerNearer_10 ?_
  refine lv_aload_n hx hb dX0_isLowerNearer_11 rfl (lv_at hl 0 rfl) ?_
  obtain ⟨r12, hv12, hf⟩ := bd1_s hf
  refine roVi (As := []) (rest := [.long ((Int32.toInt64 r1) * (Int32.toInt64 lwb))]) ⟨hx, hb, hml, hown, hts⟩ (zX0_bottom l G cI _ h a1 a2 a3 qs ts bs cn  hv12) (cwV 0 hts gX0_isLowerNearer_X0_bottom rfl rfl rfl (by decide +kernel) ⟨Nat.le_of_ble_eq_true rfl, Nat.le_of_ble_eq_true rfl⟩) hK hP (hP.sub [0, 1, 2, 3] rfl) rfl rfl rfl hl.1 rfl (Nat.le_of_ble_eq_true rfl) dX0_isLowerNearer_12 ⟨Nat.le_of_ble_eq_true rfl, Nat.le_of_ble_eq_true rfl⟩ hS hA (fun H locs hP hz12 hS => ?_)
  refine lv_i2l hx hb dX0_isLowerNearer_15 rfl ?_
  refine lv_aload_n hx hb dX0_isLowerNearer_16 rfl (lv_at hl 1 rfl) ?_
  refine va_get (D := G) (ci := 1) (v := .int lwt) (C := RX1) (T := TX1) (N := 2) hx hb hts hinX1 hown hK.1 hP 4 rfl rfl 0 (by decide) w2 (fun _ h9 => h9) rfl dX0_isLowerNearer_17 ?_
  refine lv_i2l hx hb dX0_isLowerNearer_20 rfl ?_
  refine lv_lmul hx hb dX0_isLowerNearer_21 ?_
  refine lv_lsub hx hb dX0_isLowerNearer_22 ?_
  refine lv_aload_n hx hb dX0_isLowerNearer_23 rfl (lv_at hl 2 rfl) ?_
  refine va_get (D := G) (ci := 1) (v := .int upb) (C := RX1) (T := TX1) (N := 2) hx hb hts hinX1 hown hK.1 hP 5 rfl rfl 1 (by decide) w0 (fun _ h9 => h9) rfl dX0_isLowerNearer_24 ?_
  refine lv_i2l hx hb dX0_isLowerNearer_27 rfl ?_
  refine lv_lmul hx hb dX0_isLowerNearer_28 ?_
  refine lv_topl (fun v29 ev29 => ?_)
  have hf := nm_s ev29 hf
  refine lv_lstore_n (lv' := [(3, .long v29), (0, .ref h), (1, .ref e1), (2, .ref e2)]) hx hb dX0_isLowerNearer_29 rfl hl (by decide) rfl (fun ls hl => ?_)
  refine lv_aload_n hx hb dX0_isLowerNearer_30 rfl (lv_at hl 1 rfl) ?_
  obtain ⟨r31, hv31, hf⟩ := bd1_s hf
  refine roVi (As := []) (rest := []) ⟨hx, hb, hml, hown, hts⟩ (zX0_bottom l G cI _ h a1 a2 a3 qs ts bs cn  hv31) (cwV 0 hts gX0_isLowerNearer_X0_bottom rfl rfl rfl (by decide +kernel) ⟨Nat.le_of_ble_eq_true rfl, Nat.le_of_ble_eq_true rfl⟩) hK hP (hP.sub [0, 1, 2, 3] rfl) rfl rfl rfl hl.1 rfl (Nat.le_of_ble_eq_true rfl) dX0_isLowerNearer_31 ⟨Nat.le_of_ble_eq_true rfl, Nat.le_of_ble_eq_true rfl⟩ hS hA (fun H locs hP hz31 hS => ?_)
  refine lv_i2l hx hb dX0_isLowerNearer_34 rfl ?_
  refine lv_aload_n hx hb dX0_isLowerNearer_35 rfl (lv_at hl 3 rfl) ?_
  refine va_get (D := G) (ci := 1) (v := .int upt) (C := RX1) (T := TX1) (N := 2) hx hb hts hinX1 hown hK.1 hP 5 rfl rfl 0 (by decide) w2 (fun _ h9 => h9) rfl dX0_isLowerNearer_36 ?_
  refine lv_i2l hx hb dX0_isLowerNearer_39 rfl ?_
  refine lv_lmul hx hb dX0_isLowerNearer_40 ?_
  refine lv_aload_n hx hb dX0_isLowerNearer_41 rfl (lv_at hl 1 rfl) ?_
  obtain ⟨r42, hv42, hf⟩ := bd1_s hf
  refine roVi (As := []) (rest := [.long ((Int32.toInt64 r31) * (Int32.toInt64 upt))]) ⟨hx, hb, hml, hown, hts⟩ (zX0_top l G cI _ h a1 a2 a3 qs ts bs cn  hv42) (cwV 0 hts gX0_isLowerNearer_X0_top rfl rfl rfl (by decide +kernel) ⟨Nat.le_of_ble_eq_true rfl, Nat.le_of_ble_eq_true rfl⟩) hK hP (hP.sub [0, 1, 2, 3] rfl) rfl rfl rfl hl.1 rfl (Nat.le_of_ble_eq_true rfl) dX0_isLowerNearer_42 ⟨Nat.le_of_ble_eq_true rfl, Nat.le_of_ble_eq_true rfl⟩ hS hA (fun H locs hP hz42 hS => ?_)
  refine lv_i2l hx hb dX0_isLowerNearer_45 rfl ?_
  refine lv_aload_n hx hb dX0_isLowerNearer_46 rfl (lv_at hl 3 rfl) ?_
  refine va_get (D := G) (ci := 1) (v := .int upb) (C := RX1) (T := TX1) (N := 2) hx hb hts hinX1 hown hK.1 hP 5 rfl rfl 1 (by decide) w0 (fun _ h9 => h9) rfl dX0_isLowerNearer_47 ?_
  refine lv_i2l hx hb dX0_isLowerNearer_50 rfl ?_
  refine lv_lmul hx hb dX0_isLowerNearer_51 ?_
  refine lv_lsub hx hb dX0_isLowerNearer_52 ?_
  refine lv_aload_n hx hb dX0_isLowerNearer_53 rfl (lv_at hl 2 rfl) ?_
  refine va_get (D := G) (ci := 1) (v := .int lwb) (C := RX1) (T := TX1) (N := 2) hx hb hts hinX1 hown hK.1 hP 4 rfl rfl 1 (by decide) w0 (fun _ h9 => h9) rfl dX0_isLowerNearer_54 ?_
  refine lv_i2l hx hb dX0_isLowerNearer_57 rfl ?_
  refine lv_lmul hx hb dX0_isLowerNearer_58 ?_
  refine lv_topl (fun v59 ev59 => ?_)
  have hf := nm_s ev59 hf
  refine lv_lstore (lv' := [(5, .long v59), (3, .long v29), (0, .ref h), (1, .ref e1), (2, .ref e2)]) hx hb dX0_isLowerNearer_59 hl (by decide) rfl (fun ls hl => ?_)
  refine lv_lload_n hx hb dX0_isLowerNearer_61 rfl (lv_at hl 1 rfl) ?_
  refine lv_lload hx hb dX0_isLowerNearer_62 (lv_at hl 0 rfl) ?_
  refine W.lcmp hx hb dX0_isLowerNearer_64 ?_
  refine lv_if_lt (tgt := 86) hx hb dX0_isLowerNearer_65 (by decide) (fun c65 => ?_) (fun c65 => ?_)
  · have hf := it_t c65 hf
    refine lv_iconst (v := 1) hx hb dX0_isLowerNearer_86 (by decide) ?_
    refine lv_goto (tgt := 91) hx hb dX0_isLowerNearer_87 (by decide) ?_
    refine qf_s (Qf := Qf) hf ?_
    rw [hQf]
    exact W.zret hx hb hr (by decide) (fun t ht hW => ⟨⟨_, (), rfl, rfl, trivial⟩, hS.F ht⟩) hS.2.2 dX0_isLowerNearer_91
  · have hf := it_f c65 hf
    refine lv_lload_n hx hb dX0_isLowerNearer_68 rfl (lv_at hl 1 rfl) ?_
    refine lv_lload hx hb dX0_isLowerNearer_69 (lv_at hl 0 rfl) ?_
    refine W.lcmp hx hb dX0_isLowerNearer_71 ?_
    refine lv_if_ne (tgt := 90) hx hb dX0_isLowerNearer_72 (by decide) (fun c72 => ?_) (fun c72 => ?_)
    · have hf := it_f c72 hf
      refine lv_iconst (v := 0) hx hb dX0_isLowerNearer_90 (by decide) ?_
      refine qf_s (Qf := Qf) hf ?_
      rw [hQf]
      exact W.zret hx hb hr (by decide) (fun t ht hW => ⟨⟨_, (), rfl, rfl, trivial⟩, hS.F ht⟩) hS.2.2 dX0_isLowerNearer_91
    · have hf := it_t c72 hf
      refine lv_aload_n hx hb dX0_isLowerNearer_75 rfl (lv_at hl 3 rfl) ?_
      refine va_get (D := G) (ci := 1) (v := .int lwb) (C := RX1) (T := TX1) (N := 2) hx hb hts hinX1 hown hK.1 hP 4 rfl rfl 1 (by decide) w0 (fun _ h9 => h9) rfl dX0_isLowerNearer_76 ?_
      refine lv_aload_n hx hb dX0_isLowerNearer_79 rfl (lv_at hl 4 rfl) ?_
      refine va_get (D := G) (ci := 1) (v := .int upb) (C := RX1) (T := TX1) (N := 2) hx hb hts hinX1 hown hK.1 hP 5 rfl rfl 1 (by decide) w0 (fun _ h9 => h9) rfl dX0_isLowerNearer_80 ?_
      refine lv_icmp_gt (tgt := 90) hx hb dX0_isLowerNearer_83 (by decide) (fun c83 => ?_) (fun c83 => ?_)
      · have hf := it_t c83 hf
        refine lv_iconst (v := 0) hx hb dX0_isLowerNearer_90 (by decide) ?_
        refine qf_s (Qf := Qf) hf ?_
        rw [hQf]
        exact W.zret hx hb hr (by decide) (fun t ht hW => ⟨⟨_, (), rfl, rfl, trivial⟩, hS.F ht⟩) hS.2.2 dX0_isLowerNearer_91
      · have hf := it_f c83 hf
        refine lv_iconst (v := 1) hx hb dX0_isLowerNearer_86 (by decide) ?_
        refine lv_goto (tgt := 91) hx hb dX0_isLowerNearer_87 (by decide) ?_
        refine qf_s (Qf := Qf) hf ?_
        rw [hQf]
        exact W.zret hx hb hr (by decide) (fun t ht hW => ⟨⟨_, (), rfl, rfl, trivial⟩, hS.F ht⟩) hS.2.2 dX0_isLowerNearer_91
def fX0_termsMakeIt_B12 (k12 : Int64 → Int64 → Int32 → Option (Int32)) (qs : Nat → Int32) (ts : Nat → Int32) (bs : Nat → Int32) (cn : Int32) (x1 : Int64) (x3 : Int64) (x5 : Int32) : Option (Int32) :=
  if x5 < 0 then
    bd1 (fX0_top ts cn) fun r44 =>
    if (lg_cmp x1 (Int32.toInt64 r44)) = 0 then
      bd1 (fX0_bottom bs cn) fun r54 =>
      if (lg_cmp x3 (Int32.toInt64 r54)) = 0 then
        some 1
      else
        some 0
    else
      some 0
  else
    ckI x5 32 <|
    nm (((Int32.toInt64 (qs (Int32.toNatClampNeg x5))) * x1) + x3) fun v29 =>
    nm (x5 + (-1)) fun v36 =>
    k12 v29 x1 v36
def fX0_termsMakeIt_L12 (qs : Nat → Int32) (ts : Nat → Int32) (bs : Nat → Int32) (cn : Int32) : Nat → Int64 → Int64 → Int32 → Option (Int32)
  | 0, _, _, _ => none
  | n + 1, x1, x3, x5 => fX0_termsMakeIt_B12 (fX0_termsMakeIt_L12  qs ts bs cn n) qs ts bs cn x1 x3 x5
def fX0_termsMakeIt (qs : Nat → Int32) (ts : Nat → Int32) (bs : Nat → Int32) (cn : Int32) : Option (Int32) :=
  nm (cn - 1) fun v10 =>
  fX0_termsMakeIt_L12  qs ts bs cn FU 1 0 v10
set_option maxHeartbeats 4000000 in
set_option maxRecDepth 100000 in
theorem zX0_termsMakeIt (l : Launch) (G : va_G) (cI : ClassId) (sz : Nat) (h a1 a2 a3 : Nat) (qs : Nat → Int32) (ts : Nat → Int32) (bs : Nat → Int32) (cn : Int32) {rv : Int32} (hf : fX0_termsMakeIt qs ts bs cn = some rv) : mRi l yX0_termsMakeIt wsX0_termsMakeIt ({ frames := 1, cells := 0, slots := 0, locals := 20 }) [.ref h] G cI [(h, .inr (0, [.ref a1, .ref a2, .ref a3, .int cn])), (a1, .inl (cI, 32, .inl qs)), (a2, .inl (cI, 33, .inl ts)), (a3, .inl (cI, 33, .inl bs))] sz rv := by
  refine Met.ofW (cc := cX0_termsMakeIt) (maxL := 8) (ret := (some .boolean)) (by decide) rfl ?_
  intro p e s m args below meth c s₁ B hml hv
  obtain ⟨rfl, hsz, hP, hK⟩ := hv
  have hx := B.exec
  have hb := B.bytes
  have hr := B.returns
  have hts := atoms_spec (ws := wsX0_termsMakeIt) B.pre
  have hown : s.vm.findClass RX0 = some m.cls := findClass_of_methodNamed B.named
  have hlocks := B.notSynchronized
  subst hsz
  generalize hAe : va_A [] s.heap.size = A
  have hA : ∀ q : Nat, s.heap.size ≤ q → A q := fun q h => by rw [← hAe]; exact Or.inr h
  have hS : va_S A s.heap s.heap [] := va_S.rf
  have w0 := hts (.fieldLink RX0 21 "SternDesk$Expansion" "count" "I") (by decide +kernel)
  have hinX0 : ∀ w ∈ u_ws RX0 TX0 4, w ∈ wsX0_termsMakeIt := by decide +kernel
  have w2 := hts (.fieldLink RX0 9 "SternDesk$Expansion" "quotients" "[I") (by decide +kernel)
  obtain ⟨Qf, hQf⟩ : ∃ f : Int32 → State → Prop, f = fun z => MQ below (va_Qi (fun (r : Int32) (_ : Unit) => r = z) (fun _ _ => True) A) ([.ref h].toArray) s 0 0 A := ⟨_, rfl⟩
  suffices hgo : W p l e (headSpec wsX0_termsMakeIt ({ frames := 1, cells := 0, slots := 0, locals := 20 })).room s m ([.ref h].toArray) below meth c s.heap [] 0 0 (Qf rv) (entryFrame m ([.ref h].toArray) 8) by rw [hQf] at hgo; exact hgo
  have B12 : ∀ (k12 : Int64 → Int64 → Int32 → Option (Int32)) (hk12 : ∀ (x1 : Int64) (x3 : Int64) (x5 : Int32) (H : Heap) (locs : List Loc) (ls : Array Slot), k12 x1 x3 x5 = some rv → va_P G vwCl [(h, .inr (0, [.ref a1, .ref a2, .ref a3, .int cn])), (a1, .inl (cI, 32, .inl qs)), (a2, .inl (cI, 33, .inl ts)), (a3, .inl (cI, 33, .inl bs))] H → va_S A s.heap H locs → lv_has ls 8 [(0, .ref h), (1, .long x1), (3, .long x3), (5, .int x5)] → W p l e (headSpec wsX0_termsMakeIt ({ frames := 1, cells := 0, slots := 0, locals := 20 })).room s m ([.ref h].toArray) below meth c H locs 0 0 (Qf rv) (F0 m 12 ls [])) (x1 : Int64) (x3 : Int64) (x5 : Int32) (H : Heap) (locs : List Loc) (ls : Array Slot), fX0_termsMakeIt_B12 k12 qs ts bs cn x1 x3 x5 = some rv → va_P G vwCl [(h, .inr (0, [.ref a1, .ref a2, .ref a3, .int cn])), (a1, .inl (cI, 32, .inl qs)), (a2, .inl (cI, 33, .inl ts)), (a3, .inl (cI, 33, .inl bs))] H → va_S A s.heap H locs → lv_has ls 8 [(0, .ref h), (1, .long x1), (3, .long x3), (5, .int x5)] → W p l e (headSpec wsX0_termsMakeIt ({ frames := 1, cells := 0, slots := 0, locals := 20 })).room s m ([.ref h].toArray) below meth c H locs 0 0 (Qf rv) (F0 m 12 ls []) := by
    intro k12 hk12  x1 x3 x5 H locs ls hf hP hS hl
    unfold fX0_termsMakeIt_B12 at hf
    refine lv_iload hx hb dX0_termsMakeIt_12 (lv_at hl 3 rfl) ?_
    refine lv_if_lt (tgt := 42) hx hb dX0_termsMakeIt_14 (by decide) (fun c14 => ?_) (fun c14 => ?_)
    · have hf := it_t c14 hf
      refine lv_lload_n hx hb dX0_termsMakeIt_42 rfl (lv_at hl 1 rfl) ?_
      refine lv_aload_n hx hb dX0_termsMakeIt_43 rfl (lv_at hl 0 rfl) ?_
      obtain ⟨r44, hv44, hf⟩ := bd1_s hf
      refine roVi (As := []) (rest := [.long x1]) ⟨hx, hb, hml, hown, hts⟩ (zX0_top l G cI _ h a1 a2 a3 qs ts bs cn  hv44) (cwV 0 hts gX0_termsMakeIt_X0_top rfl rfl rfl (by decide +kernel) ⟨Nat.le_of_ble_eq_true rfl, Nat.le_of_ble_eq_true rfl⟩) hK hP (hP.sub [0, 1, 2, 3] rfl) rfl rfl rfl hl.1 rfl (Nat.le_of_ble_eq_true rfl) dX0_termsMakeIt_44 ⟨Nat.le_of_ble_eq_true rfl, Nat.le_of_ble_eq_true rfl⟩ hS hA (fun H locs hP hz44 hS => ?_)
      refine lv_i2l hx hb dX0_termsMakeIt_47 rfl ?_
      refine W.lcmp hx hb dX0_termsMakeIt_48 ?_
      refine lv_if_ne (tgt := 66) hx hb dX0_termsMakeIt_49 (by decide) (fun c49 => ?_) (fun c49 => ?_)
      · have hf := it_f c49 hf
        refine lv_iconst (v := 0) hx hb dX0_termsMakeIt_66 (by decide) ?_
        refine qf_s (Qf := Qf) hf ?_
        rw [hQf]
        exact W.zret hx hb hr (by decide) (fun t ht hW => ⟨⟨_, (), rfl, rfl, trivial⟩, hS.F ht⟩) hS.2.2 dX0_termsMakeIt_67
      · have hf := it_t c49 hf
        refine lv_lload_n hx hb dX0_termsMakeIt_52 rfl (lv_at hl 2 rfl) ?_
        refine lv_aload_n hx hb dX0_termsMakeIt_53 rfl (lv_at hl 0 rfl) ?_
        obtain ⟨r54, hv54, hf⟩ := bd1_s hf
        refine roVi (As := []) (rest := [.long x3]) ⟨hx, hb, hml, hown, hts⟩ (zX0_bottom l G cI _ h a1 a2 a3 qs ts bs cn  hv54) (cwV 0 hts gX0_termsMakeIt_X0_bottom rfl rfl rfl (by decide +kernel) ⟨Nat.le_of_ble_eq_true rfl, Nat.le_of_ble_eq_true rfl⟩) hK hP (hP.sub [0, 1, 2, 3] rfl) rfl rfl rfl hl.1 rfl (Nat.le_of_ble_eq_true rfl) dX0_termsMakeIt_54 ⟨Nat.le_of_ble_eq_true rfl, Nat.le_of_ble_eq_true rfl⟩ hS hA (fun H locs hP hz54 hS => ?_)
        refine lv_i2l hx hb dX0_termsMakeIt_57 rfl ?_
        refine W.lcmp hx hb dX0_termsMakeIt_58 ?_
        refine lv_if_ne (tgt := 66) hx hb dX0_termsMakeIt_59 (by decide) (fun c59 => ?_) (fun c59 => ?_)
        · have hf := it_f c59 hf
          refine lv_iconst (v := 0) hx hb dX0_termsMakeIt_66 (by decide) ?_
          refine qf_s (Qf := Qf) hf ?_
          rw [hQf]
          exact W.zret hx hb hr (by decide) (fun t ht hW => ⟨⟨_, (), rfl, rfl, trivial⟩, hS.F ht⟩) hS.2.2 dX0_termsMakeIt_67
        · have hf := it_t c59 hf
          refine lv_iconst (v := 1) hx hb dX0_termsMakeIt_62 (by decide) ?_
          refine lv_goto (tgt := 67) hx hb dX0_termsMakeIt_63 (by decide) ?_
          refine qf_s (Qf := Qf) hf ?_
          rw [hQf]
          exact W.zret hx hb hr (by decide) (fun t ht hW => ⟨⟨_, (), rfl, rfl, trivial⟩, hS.F ht⟩) hS.2.2 dX0_termsMakeIt_67
    · have hf := it_f c14 hf
      refine lv_aload_n hx hb dX0_termsMakeIt_17 rfl (lv_at hl 0 rfl) ?_
      refine va_get (D := G) (ci := 0) (v := .ref a1) (C := RX0) (T := TX0) (N := 4) hx hb hts hinX0 hown hK.1 hP 0 rfl rfl 0 (by decide) w2 (fun _ h9 => h9) rfl dX0_termsMakeIt_18 ?_
      refine lv_iload hx hb dX0_termsMakeIt_21 (lv_at hl 3 rfl) ?_
      obtain ⟨hi23, hf⟩ := ckI_s hf
      refine va_iald hx hb hK.1 hP 1 0 rfl rfl hi23 dX0_termsMakeIt_23 ?_
      refine lv_i2l hx hb dX0_termsMakeIt_24 rfl ?_
      refine lv_lload_n hx hb dX0_termsMakeIt_25 rfl (lv_at hl 1 rfl) ?_
      refine lv_lmul hx hb dX0_termsMakeIt_26 ?_
      refine lv_lload_n hx hb dX0_termsMakeIt_27 rfl (lv_at hl 2 rfl) ?_
      refine lv_ladd hx hb dX0_termsMakeIt_28 ?_
      refine lv_topl (fun v29 ev29 => ?_)
      have hf := nm_s ev29 hf
      refine lv_lstore (lv' := [(6, .long v29), (0, .ref h), (1, .long x1), (3, .long x3), (5, .int x5)]) hx hb dX0_termsMakeIt_29 hl (by decide) rfl (fun ls hl => ?_)
      refine lv_lload_n hx hb dX0_termsMakeIt_31 rfl (lv_at hl 2 rfl) ?_
      refine lv_lstore_n (lv' := [(3, .long x1), (6, .long v29), (0, .ref h), (1, .long x1), (5, .int x5)]) hx hb dX0_termsMakeIt_32 rfl hl (by decide) rfl (fun ls hl => ?_)
      refine lv_lload hx hb dX0_termsMakeIt_33 (lv_at hl 1 rfl) ?_
      refine lv_lstore_n (lv' := [(1, .long v29), (3, .long x1), (6, .long v29), (0, .ref h), (5, .int x5)]) hx hb dX0_termsMakeIt_35 rfl hl (by decide) rfl (fun ls hl => ?_)
      obtain ⟨v36, ev36⟩ : ∃ y : Int32, y = x5 + (-1) := ⟨_, rfl⟩
      have hf := nm_s ev36 hf
      refine lv_iinc (v := v36) (lv' := [(5, .int v36), (1, .long v29), (3, .long x1), (6, .long v29), (0, .ref h)]) hx hb dX0_termsMakeIt_36 hl (k := 4) rfl (by rw [ev36]; rfl) (by decide) rfl (fun ls hl => ?_)
      refine lv_goto (tgt := 12) hx hb dX0_termsMakeIt_39 (by decide) ?_
      exact hk12  v29 x1 v36 _ _ _ hf hP hS (lv_sub hl [4, 1, 2, 0] rfl)
  have L12 : ∀ (fu : Nat) (x1 : Int64) (x3 : Int64) (x5 : Int32) (H : Heap) (locs : List Loc) (ls : Array Slot), fX0_termsMakeIt_L12  qs ts bs cn fu x1 x3 x5 = some rv → va_P G vwCl [(h, .inr (0, [.ref a1, .ref a2, .ref a3, .int cn])), (a1, .inl (cI, 32, .inl qs)), (a2, .inl (cI, 33, .inl ts)), (a3, .inl (cI, 33, .inl bs))] H → va_S A s.heap H locs → lv_has ls 8 [(0, .ref h), (1, .long x1), (3, .long x3), (5, .int x5)] → W p l e (headSpec wsX0_termsMakeIt ({ frames := 1, cells := 0, slots := 0, locals := 20 })).room s m ([.ref h].toArray) below meth c H locs 0 0 (Qf rv) (F0 m 12 ls []) := by
    intro  fu
    induction fu with
    | zero => intro  x1 x3 x5 H locs ls hf; cases hf
    | succ fu ih => intro  x1 x3 x5 H locs ls hf hP hS hl; exact B12 (fX0_termsMakeIt_L12  qs ts bs cn fu) ih  x1 x3 x5 _ _ _ hf hP hS hl
  have hl := lv_entry ([.ref h]) (n := 8) (Nat.le_of_ble_eq_true rfl)
  rw [lg_entry_eq]
  generalize (lg_sl ([.ref h]) ++ List.replicate (8 - (lg_sl ([.ref h])).length) Slot.unset).toArray = ls at hl ⊢
  have hl : lv_has ls 8 [(0, .ref h)] := hl
  unfold fX0_termsMakeIt at hf
  refine lv_lconst (v := 1) hx hb dX0_termsMakeIt_0 (by decide) ?_
  refine lv_lstore_n (lv' := [(1, .long 1), (0, .ref h)]) hx hb dX0_termsMakeIt_1 rfl hl (by decide) rfl (fun ls hl => ?_)
  refine lv_lconst (v := 0) hx hb dX0_termsMakeIt_2 (by decide) ?_
  refine lv_lstore_n (lv' := [(3, .long 0), (1, .long 1), (0, .ref h)]) hx hb dX0_termsMakeIt_3 rfl hl (by decide) rfl (fun ls hl => ?_)
  refine lv_aload_n hx hb dX0_termsMakeIt_4 rfl (lv_at hl 2 rfl) ?_
  refine va_get (D := G) (ci := 0) (v := .int cn) (C := RX0) (T := TX0) (N := 4) hx hb hts hinX0 hown hK.1 hP 0 rfl rfl 3 (by decide) w0 (fun _ h9 => h9) rfl dX0_termsMakeIt_5 ?_
  refine lv_iconst (v := 1) hx hb dX0_termsMakeIt_8 (by decide) ?_
  refine lv_isub hx hb dX0_termsMakeIt_9 ?_
  refine lv_topi (fun v10 ev10 => ?_)
  have hf := nm_s ev10 hf
  refine lv_istore (lv' := [(5, .int v10), (3, .long 0), (1, .long 1), (0, .ref h)]) hx hb dX0_termsMakeIt_10 hl (by decide) rfl (fun ls hl => ?_)
  exact L12  FU  1 0 v10 _ _ _ hf hP hS (lv_sub hl [3, 2, 1, 0] rfl)
def fX0_convergentsAreClose_J62 (k2 : Int32 → Option (Int32)) (ts : Nat → Int32) (bs : Nat → Int32) (cn : Int32) (x1 : Int32) : Option (Int32) :=
  nm (x1 + 1) fun v62 =>
  k2 v62
def fX0_convergentsAreClose_B2 (k2 : Int32 → Option (Int32)) (ts : Nat → Int32) (bs : Nat → Int32) (cn : Int32) (x1 : Int32) : Option (Int32) :=
  if cn < x1 then
    some 1
  else
    ckI x1 33 <|
    ckI (x1 - 1) 33 <|
    ckI (x1 - 1) 33 <|
    ckI x1 33 <|
    nm (((Int32.toInt64 (ts (Int32.toNatClampNeg x1))) * (Int32.toInt64 (bs (Int32.toNatClampNeg (x1 - 1))))) - ((Int32.toInt64 (ts (Int32.toNatClampNeg (x1 - 1)))) * (Int32.toInt64 (bs (Int32.toNatClampNeg x1))))) fun v45 =>
    if (lg_cmp v45 1) = 0 then
      fX0_convergentsAreClose_J62 k2 ts bs cn x1
    else
      if (lg_cmp v45 (-1)) = 0 then
        fX0_convergentsAreClose_J62 k2 ts bs cn x1
      else
        some 0
def fX0_convergentsAreClose_L2 (ts : Nat → Int32) (bs : Nat → Int32) (cn : Int32) : Nat → Int32 → Option (Int32)
  | 0, _ => none
  | n + 1, x1 => fX0_convergentsAreClose_B2 (fX0_convergentsAreClose_L2  ts bs cn n) ts bs cn x1
def fX0_convergentsAreClose (ts : Nat → Int32) (bs : Nat → Int32) (cn : Int32) : Option (Int32) :=
  fX0_convergentsAreClose_L2  ts bs cn FU 2
set_option maxHeartbeats 4000000 in
set_option maxRecDepth 100000 in
theorem zX0_convergentsAreClose (l : Launch) (G : va_G) (cI : ClassId) (sz : Nat) (h a1 a2 a3 : Nat) (qs : Nat → Int32) (ts : Nat → Int32) (bs : Nat → Int32) (cn : Int32) {rv : Int32} (hf : fX0_convergentsAreClose ts bs cn = some rv) : mRi l yX0_convergentsAreClose wsX0_convergentsAreClose ({ frames := 0, cells := 0, slots := 0, locals := 0 }) [.ref h] G cI [(h, .inr (0, [.ref a1, .ref a2, .ref a3, .int cn])), (a1, .inl (cI, 32, .inl qs)), (a2, .inl (cI, 33, .inl ts)), (a3, .inl (cI, 33, .inl bs))] sz rv := by
  refine Met.ofW (cc := cX0_convergentsAreClose) (maxL := 4) (ret := (some .boolean)) (by decide) rfl ?_
  intro p e s m args below meth c s₁ B hml hv
  obtain ⟨rfl, hsz, hP, hK⟩ := hv
  have hx := B.exec
  have hb := B.bytes
  have hr := B.returns
  have hts := atoms_spec (ws := wsX0_convergentsAreClose) B.pre
  have hown : s.vm.findClass RX0 = some m.cls := findClass_of_methodNamed B.named
  have hlocks := B.notSynchronized
  subst hsz
  generalize hAe : va_A [] s.heap.size = A
  have hA : ∀ q : Nat, s.heap.size ≤ q → A q := fun q h => by rw [← hAe]; exact Or.inr h
  have hS : va_S A s.heap s.heap [] := va_S.rf
  have w0 := hts (.fieldLink RX0 21 "SternDesk$Expansion" "count" "I") (by decide +kernel)
  have hinX0 : ∀ w ∈ u_ws RX0 TX0 4, w ∈ wsX0_convergentsAreClose := by decide +kernel
  have w2 := hts (.fieldLink RX0 15 "SternDesk$Expansion" "tops" "[I") (by decide +kernel)
  have w3 := hts (.fieldLink RX0 18 "SternDesk$Expansion" "bottoms" "[I") (by decide +kernel)
  have w4 := hts (.constantLong RX0 65 (-1)) (by decide +kernel)
  obtain ⟨Qf, hQf⟩ : ∃ f : Int32 → State → Prop, f = fun z => MQ below (va_Qi (fun (r : Int32) (_ : Unit) => r = z) (fun _ _ => True) A) ([.ref h].toArray) s 0 0 A := ⟨_, rfl⟩
  suffices hgo : W p l e (headSpec wsX0_convergentsAreClose ({ frames := 0, cells := 0, slots := 0, locals := 0 })).room s m ([.ref h].toArray) below meth c s.heap [] 0 0 (Qf rv) (entryFrame m ([.ref h].toArray) 4) by rw [hQf] at hgo; exact hgo
  have J62 : ∀ (k2 : Int32 → Option (Int32)) (hk2 : ∀ (x1 : Int32) (H : Heap) (locs : List Loc) (ls : Array Slot), k2 x1 = some rv → va_P G vwCl [(h, .inr (0, [.ref a1, .ref a2, .ref a3, .int cn])), (a1, .inl (cI, 32, .inl qs)), (a2, .inl (cI, 33, .inl ts)), (a3, .inl (cI, 33, .inl bs))] H → va_S A s.heap H locs → lv_has ls 4 [(0, .ref h), (1, .int x1)] → W p l e (headSpec wsX0_convergentsAreClose ({ frames := 0, cells := 0, slots := 0, locals := 0 })).room s m ([.ref h].toArray) below meth c H locs 0 0 (Qf rv) (F0 m 2 ls [])) (x1 : Int32) (H : Heap) (locs : List Loc) (ls : Array Slot), fX0_convergentsAreClose_J62 k2 ts bs cn x1 = some rv → va_P G vwCl [(h, .inr (0, [.ref a1, .ref a2, .ref a3, .int cn])), (a1, .inl (cI, 32, .inl qs)), (a2, .inl (cI, 33, .inl ts)), (a3, .inl (cI, 33, .inl bs))] H → va_S A s.heap H locs → lv_has ls 4 [(0, .ref h), (1, .int x1)] → W p l e (headSpec wsX0_convergentsAreClose ({ frames := 0, cells := 0, slots := 0, locals := 0 })).room s m ([.ref h].toArray) below meth c H locs 0 0 (Qf rv) (F0 m 62 ls []) := by
    intro k2 hk2  x1 H locs ls hf hP hS hl
    unfold fX0_convergentsAreClose_J62 at hf
    obtain ⟨v62, ev62⟩ : ∃ y : Int32, y = x1 + 1 := ⟨_, rfl⟩
    have hf := nm_s ev62 hf
    refine lv_iinc (v := v62) (lv' := [(1, .int v62), (0, .ref h)]) hx hb dX0_convergentsAreClose_62 hl (k := 1) rfl (by rw [ev62]; rfl) (by decide) rfl (fun ls hl => ?_)
    refine lv_goto (tgt := 2) hx hb dX0_convergentsAreClose_65 (by decide) ?_
    exact hk2  v62 _ _ _ hf hP hS (lv_sub hl [1, 0] rfl)
  have B2 : ∀ (k2 : Int32 → Option (Int32)) (hk2 : ∀ (x1 : Int32) (H : Heap) (locs : List Loc) (ls : Array Slot), k2 x1 = some rv → va_P G vwCl [(h, .inr (0, [.ref a1, .ref a2, .ref a3, .int cn])), (a1, .inl (cI, 32, .inl qs)), (a2, .inl (cI, 33, .inl ts)), (a3, .inl (cI, 33, .inl bs))] H → va_S A s.heap H locs → lv_has ls 4 [(0, .ref h), (1, .int x1)] → W p l e (headSpec wsX0_convergentsAreClose ({ frames := 0, cells := 0, slots := 0, locals := 0 })).room s m ([.ref h].toArray) below meth c H locs 0 0 (Qf rv) (F0 m 2 ls [])) (x1 : Int32) (H : Heap) (locs : List Loc) (ls : Array Slot), fX0_convergentsAreClose_B2 k2 ts bs cn x1 = some rv → va_P G vwCl [(h, .inr (0, [.ref a1, .ref a2, .ref a3, .int cn])), (a1, .inl (cI, 32, .inl qs)), (a2, .inl (cI, 33, .inl ts)), (a3, .inl (cI, 33, .inl bs))] H → va_S A s.heap H locs → lv_has ls 4 [(0, .ref h), (1, .int x1)] → W p l e (headSpec wsX0_convergentsAreClose ({ frames := 0, cells := 0, slots := 0, locals := 0 })).room s m ([.ref h].toArray) below meth c H locs 0 0 (Qf rv) (F0 m 2 ls []) := by
    intro k2 hk2  x1 H locs ls hf hP hS hl
    unfold fX0_convergentsAreClose_B2 at hf
    refine lv_iload_n hx hb dX0_convergentsAreClose_2 rfl (lv_at hl 1 rfl) ?_
    refine lv_aload_n hx hb dX0_convergentsAreClose_3 rfl (lv_at hl 0 rfl) ?_
    refine va_get (D := G) (ci := 0) (v := .int cn) (C := RX0) (T := TX0) (N := 4) hx hb hts hinX0 hown hK.1 hP 0 rfl rfl 3 (by decide) w0 (fun _ h9 => h9) rfl dX0_convergentsAreClose_4 ?_
    refine lv_icmp_gt (tgt := 68) hx hb dX0_convergentsAreClose_7 (by decide) (fun c7 => ?_) (fun c7 => ?_)
    · have hf := it_t c7 hf
      refine lv_iconst (v := 1) hx hb dX0_convergentsAreClose_68 (by decide) ?_
      refine qf_s (Qf := Qf) hf ?_
      rw [hQf]
      exact W.zret hx hb hr (by decide) (fun t ht hW => ⟨⟨_, (), rfl, rfl, trivial⟩, hS.F ht⟩) hS.2.2 dX0_convergentsAreClose_69
    · have hf := it_f c7 hf
      refine lv_aload_n hx hb dX0_convergentsAreClose_10 rfl (lv_at hl 0 rfl) ?_
      refine va_get (D := G) (ci := 0) (v := .ref a2) (C := RX0) (T := TX0) (N := 4) hx hb hts hinX0 hown hK.1 hP 0 rfl rfl 1 (by decide) w2 (fun _ h9 => h9) rfl dX0_convergentsAreClose_11 ?_
      refine lv_iload_n hx hb dX0_convergentsAreClose_14 rfl (lv_at hl 1 rfl) ?_
      obtain ⟨hi15, hf⟩ := ckI_s hf
      refine va_iald hx hb hK.1 hP 2 0 rfl rfl hi15 dX0_convergentsAreClose_15 ?_
      refine lv_i2l hx hb dX0_convergentsAreClose_16 rfl ?_
      refine lv_aload_n hx hb dX0_convergentsAreClose_17 rfl (lv_at hl 0 rfl) ?_
      refine va_get (D := G) (ci := 0) (v := .ref a3) (C := RX0) (T := TX0) (N := 4) hx hb hts hinX0 hown hK.1 hP 0 rfl rfl 2 (by decide) w3 (fun _ h9 => h9) rfl dX0_convergentsAreClose_18 ?_
      refine lv_iload_n hx hb dX0_convergentsAreClose_21 rfl (lv_at hl 1 rfl) ?_
      refine lv_iconst (v := 1) hx hb dX0_convergentsAreClose_22 (by decide) ?_
      refine lv_isub hx hb dX0_convergentsAreClose_23 ?_
      obtain ⟨hi24, hf⟩ := ckI_s hf
      refine va_iald hx hb hK.1 hP 3 0 rfl rfl hi24 dX0_convergentsAreClose_24 ?_
      refine lv_i2l hx hb dX0_convergentsAreClose_25 rfl ?_
      refine lv_lmul hx hb dX0_convergentsAreClose_26 ?_
      refine lv_aload_n hx hb dX0_convergentsAreClose_27 rfl (lv_at hl 0 rfl) ?_
      refine va_get (D := G) (ci := 0) (v := .ref a2) (C := RX0) (T := TX0) (N := 4) hx hb hts hinX0 hown hK.1 hP 0 rfl rfl 1 (by decide) w2 (fun _ h9 => h9) rfl dX0_convergentsAreClose_28 ?_
      refine lv_iload_n hx hb dX0_convergentsAreClose_31 rfl (lv_at hl 1 rfl) ?_
      refine lv_iconst (v := 1) hx hb dX0_convergentsAreClose_32 (by decide) ?_
      refine lv_isub hx hb dX0_convergentsAreClose_33 ?_
      obtain ⟨hi34, hf⟩ := ckI_s hf
      refine va_iald hx hb hK.1 hP 2 0 rfl rfl hi34 dX0_convergentsAreClose_34 ?_
      refine lv_i2l hx hb dX0_convergentsAreClose_35 rfl ?_
      refine lv_aload_n hx hb dX0_convergentsAreClose_36 rfl (lv_at hl 0 rfl) ?_
      refine va_get (D := G) (ci := 0) (v := .ref a3) (C := RX0) (T := TX0) (N := 4) hx hb hts hinX0 hown hK.1 hP 0 rfl rfl 2 (by decide) w3 (fun _ h9 => h9) rfl dX0_convergentsAreClose_37 ?_
      refine lv_iload_n hx hb dX0_convergentsAreClose_40 rfl (lv_at hl 1 rfl) ?_
      obtain ⟨hi41, hf⟩ := ckI_s hf
      refine va_iald hx hb hK.1 hP 3 0 rfl rfl hi41 dX0_convergentsAreClose_41 ?_
      refine lv_i2l hx hb dX0_convergentsAreClose_42 rfl ?_
      refine lv_lmul hx hb dX0_convergentsAreClose_43 ?_
      refine lv_lsub hx hb dX0_convergentsAreClose_44 ?_
      refine lv_topl (fun v45 ev45 => ?_)
      have hf := nm_s ev45 hf
      refine lv_lstore_n (lv' := [(2, .long v45), (0, .ref h), (1, .int x1)]) hx hb dX0_convergentsAreClose_45 rfl hl (by decide) rfl (fun ls hl => ?_)
      refine lv_lload_n hx hb dX0_convergentsAreClose_46 rfl (lv_at hl 0 rfl) ?_
      refine lv_lconst (v := 1) hx hb dX0_convergentsAreClose_47 (by decide) ?_
      refine W.lcmp hx hb dX0_convergentsAreClose_48 ?_
      refine lv_if_eq (tgt := 62) hx hb dX0_convergentsAreClose_49 (by decide) (fun c49 => ?_) (fun c49 => ?_)
      · have hf := it_t c49 hf
        exact J62 k2 hk2  x1 _ _ _ hf hP hS (lv_sub hl [1, 2] rfl)
      · have hf := it_f c49 hf
        refine lv_lload_n hx hb dX0_convergentsAreClose_52 rfl (lv_at hl 0 rfl) ?_
        refine lv_ldc2 hx hb hown w4 dX0_convergentsAreClose_53 ?_
        refine W.lcmp hx hb dX0_convergentsAreClose_56 ?_
        refine lv_if_eq (tgt := 62) hx hb dX0_convergentsAreClose_57 (by decide) (fun c57 => ?_) (fun c57 => ?_)
        · have hf := it_t c57 hf
          exact J62 k2 hk2  x1 _ _ _ hf hP hS (lv_sub hl [1, 2] rfl)
        · have hf := it_f c57 hf
          refine lv_iconst (v := 0) hx hb dX0_convergentsAreClose_60 (by decide) ?_
          refine qf_s (Qf := Qf) hf ?_
          rw [hQf]
          exact W.zret hx hb hr (by decide) (fun t ht hW => ⟨⟨_, (), rfl, rfl, trivial⟩, hS.F ht⟩) hS.2.2 dX0_convergentsAreClose_61
  have L2 : ∀ (fu : Nat) (x1 : Int32) (H : Heap) (locs : List Loc) (ls : Array Slot), fX0_convergentsAreClose_L2  ts bs cn fu x1 = some rv → va_P G vwCl [(h, .inr (0, [.ref a1, .ref a2, .ref a3, .int cn])), (a1, .inl (cI, 32, .inl qs)), (a2, .inl (cI, 33, .inl ts)), (a3, .inl (cI, 33, .inl bs))] H → va_S A s.heap H locs → lv_has ls 4 [(0, .ref h), (1, .int x1)] → W p l e (headSpec wsX0_convergentsAreClose ({ frames := 0, cells := 0, slots := 0, locals := 0 })).room s m ([.ref h].toArray) below meth c H locs 0 0 (Qf rv) (F0 m 2 ls []) := by
    intro  fu
    induction fu with
    | zero => intro  x1 H locs ls hf; cases hf
    | succ fu ih => intro  x1 H locs ls hf hP hS hl; exact B2 (fX0_convergentsAreClose_L2  ts bs cn fu) ih  x1 _ _ _ hf hP hS hl
  have hl := lv_entry ([.ref h]) (n := 4) (Nat.le_of_ble_eq_true rfl)
  rw [lg_entry_eq]
  generalize (lg_sl ([.ref h]) ++ List.replicate (4 - (lg_sl ([.ref h])).length) Slot.unset).toArray = ls at hl ⊢
  have hl : lv_has ls 4 [(0, .ref h)] := hl
  unfold fX0_convergentsAreClose at hf
  refine lv_iconst (v := 2) hx hb dX0_convergentsAreClose_0 (by decide) ?_
  refine lv_istore_n (lv' := [(1, .int 2), (0, .ref h)]) hx hb dX0_convergentsAreClose_1 rfl hl (by decide) rfl (fun ls hl => ?_)
  exact L2  FU  2 _ _ _ hf hP hS (lv_sub hl [1, 0] rfl)
def fX0_wayLeadsToIt_J89 (k28 : Int64 → Int64 → Int64 → Int64 → Int32 → Int32 → Option (Int32)) (qs : Nat → Int32) (ts : Nat → Int32) (bs : Nat → Int32) (cn : Int32) (x1 : Int64) (x3 : Int64) (x5 : Int64) (x7 : Int64) (x9 : Int32) (x10 : Int32) : Option (Int32) :=
  nm (x10 + 1) fun v89 =>
  k28 x1 x3 x5 x7 x9 v89
def fX0_wayLeadsToIt_B28 (k28 : Int64 → Int64 → Int64 → Int64 → Int32 → Int32 → Option (Int32)) (qs : Nat → Int32) (ts : Nat → Int32) (bs : Nat → Int32) (cn : Int32) (x1 : Int64) (x3 : Int64) (x5 : Int64) (x7 : Int64) (x9 : Int32) (x10 : Int32) : Option (Int32) :=
  if x9 ≤ x10 then
    bd1 (fX0_top ts cn) fun r100 =>
    if (lg_cmp (x1 + x5) (Int32.toInt64 r100)) = 0 then
      bd1 (fX0_bottom bs cn) fun r113 =>
      if (lg_cmp (x3 + x7) (Int32.toInt64 r113)) = 0 then
        some 1
      else
        some 0
    else
      some 0
  else
    bd1 (fX0_stepsOfRun qs cn x10) fun r38 =>
    if r38 ≤ 0 then
      nm (x5 - ((Int32.toInt64 r38) * x1)) fun v77 =>
      nm (x7 - ((Int32.toInt64 r38) * x3)) fun v87 =>
      fX0_wayLeadsToIt_J89 k28 qs ts bs cn x1 x3 v77 v87 x9 x10
    else
      nm (x1 + ((Int32.toInt64 r38) * x5)) fun v56 =>
      nm (x3 + ((Int32.toInt64 r38) * x7)) fun v65 =>
      fX0_wayLeadsToIt_J89 k28 qs ts bs cn v56 v65 x5 x7 x9 x10
def fX0_wayLeadsToIt_L28 (qs : Nat → Int32) (ts : Nat → Int32) (bs : Nat → Int32) (cn : Int32) : Nat → Int64 → Int64 → Int64 → Int64 → Int32 → Int32 → Option (Int32)
  | 0, _, _, _, _, _, _ => none
  | n + 1, x1, x3, x5, x7, x9, x10 => fX0_wayLeadsToIt_B28 (fX0_wayLeadsToIt_L28  qs ts bs cn n) qs ts bs cn x1 x3 x5 x7 x9 x10
def fX0_wayLeadsToIt (qs : Nat → Int32) (ts : Nat → Int32) (bs : Nat → Int32) (cn : Int32) : Option (Int32) :=
  bd1 (fX0_top ts cn) fun r1 =>
  if r1 = 0 then
    some 1
  else
    bd1 (fX0_countRuns qs ts bs cn) fun r20 =>
    fX0_wayLeadsToIt_L28  qs ts bs cn FU 0 1 1 0 r20 0
set_option maxHeartbeats 4000000 in
set_option maxRecDepth 100000 in
theorem zX0_wayLeadsToIt (l : Launch) (G : va_G) (cI : ClassId) (sz : Nat) (h a1 a2 a3 : Nat) (qs : Nat → Int32) (ts : Nat → Int32) (bs : Nat → Int32) (cn : Int32) {rv : Int32} (hf : fX0_wayLeadsToIt qs ts bs cn = some rv) : mRi l yX0_wayLeadsToIt wsX0_wayLeadsToIt ({ frames := 2, cells := 0, slots := 0, locals := 43 }) [.ref h] G cI [(h, .inr (0, [.ref a1, .ref a2, .ref a3, .int cn])), (a1, .inl (cI, 32, .inl qs)), (a2, .inl (cI, 33, .inl ts)), (a3, .inl (cI, 33, .inl bs))] sz rv := by
  refine Met.ofW (cc := cX0_wayLeadsToIt) (maxL := 12) (ret := (some .boolean)) (by decide) rfl ?_
  intro p e s m args below meth c s₁ B hml hv
  obtain ⟨rfl, hsz, hP, hK⟩ := hv
  have hx := B.exec
  have hb := B.bytes
  have hr := B.returns
  have hts := atoms_spec (ws := wsX0_wayLeadsToIt) B.pre
  have hown : s.vm.findClass RX0 = some m.cls := findClass_of_methodNamed B.named
  have hlocks := B.notSynchronized
  subst hsz
  generalize hAe : va_A [] s.heap.size = A
  have hA : ∀ q : Nat, s.heap.size ≤ q → A q := fun q h => by rw [← hAe]; exact Or.inr h
  have hS : va_S A s.heap s.heap [] := va_S.rf
  obtain ⟨Qf, hQf⟩ : ∃ f : Int32 → State → Prop, f = fun z => MQ below (va_Qi (fun (r : Int32) (_ : Unit) => r = z) (fun _ _ => True) A) ([.ref h].toArray) s 0 0 A := ⟨_, rfl⟩
  suffices hgo : W p l e (headSpec wsX0_wayLeadsToIt ({ frames := 2, cells := 0, slots := 0, locals := 43 })).room s m ([.ref h].toArray) below meth c s.heap [] 0 0 (Qf rv) (entryFrame m ([.ref h].toArray) 12) by rw [hQf] at hgo; exact hgo
  have J89 : ∀ (k28 : Int64 → Int64 → Int64 → Int64 → Int32 → Int32 → Option (Int32)) (hk28 : ∀ (x1 : Int64) (x3 : Int64) (x5 : Int64) (x7 : Int64) (x9 : Int32) (x10 : Int32) (H : Heap) (locs : List Loc) (ls : Array Slot), k28 x1 x3 x5 x7 x9 x10 = some rv → va_P G vwCl [(h, .inr (0, [.ref a1, .ref a2, .ref a3, .int cn])), (a1, .inl (cI, 32, .inl qs)), (a2, .inl (cI, 33, .inl ts)), (a3, .inl (cI, 33, .inl bs))] H → va_S A s.heap H locs → lv_has ls 12 [(0, .ref h), (1, .long x1), (3, .long x3), (5, .long x5), (7, .long x7), (9, .int x9), (10, .int x10)] → W p l e (headSpec wsX0_wayLeadsToIt ({ frames := 2, cells := 0, slots := 0, locals := 43 })).room s m ([.ref h].toArray) below meth c H locs 0 0 (Qf rv) (F0 m 28 ls [])) (x1 : Int64) (x3 : Int64) (x5 : Int64) (x7 : Int64) (x9 : Int32) (x10 : Int32) (H : Heap) (locs : List Loc) (ls : Array Slot), fX0_wayLeadsToIt_J89 k28 qs ts bs cn x1 x3 x5 x7 x9 x10 = some rv → va_P G vwCl [(h, .inr (0, [.ref a1, .ref a2, .ref a3, .int cn])), (a1, .inl (cI, 32, .inl qs)), (a2, .inl (cI, 33, .inl ts)), (a3, .inl (cI, 33, .inl bs))] H → va_S A s.heap H locs → lv_has ls 12 [(0, .ref h), (1, .long x1), (3, .long x3), (5, .long x5), (7, .long x7), (9, .int x9), (10, .int x10)] → W p l e (headSpec wsX0_wayLeadsToIt ({ frames := 2, cells := 0, slots := 0, locals := 43 })).room s m ([.ref h].toArray) below meth c H locs 0 0 (Qf rv) (F0 m 89 ls []) := by
    intro k28 hk28  x1 x3 x5 x7 x9 x10 H locs ls hf hP hS hl
    unfold fX0_wayLeadsToIt_J89 at hf
    obtain ⟨v89, ev89⟩ : ∃ y : Int32, y = x10 + 1 := ⟨_, rfl⟩
    have hf := nm_s ev89 hf
    refine lv_iinc (v := v89) (lv' := [(10, .int v89), (0, .ref h), (1, .long x1), (3, .long x3), (5, .long x5), (7, .long x7), (9, .int x9)]) hx hb dX0_wayLeadsToIt_89 hl (k := 6) rfl (by rw [ev89]; rfl) (by decide) rfl (fun ls hl => ?_)
    refine lv_goto (tgt := 28) hx hb dX0_wayLeadsToIt_92 (by decide) ?_
    exact hk28  x1 x3 x5 x7 x9 v89 _ _ _ hf hP hS (lv_sub hl [1, 2, 3, 4, 5, 6, 0] rfl)
  have B28 : ∀ (k28 : Int64 → Int64 → Int64 → Int64 → Int32 → Int32 → Option (Int32)) (hk28 : ∀ (x1 : Int64) (x3 : Int64) (x5 : Int64) (x7 : Int64) (x9 : Int32) (x10 : Int32) (H : Heap) (locs : List Loc) (ls : Array Slot), k28 x1 x3 x5 x7 x9 x10 = some rv → va_P G vwCl [(h, .inr (0, [.ref a1, .ref a2, .ref a3, .int cn])), (a1, .inl (cI, 32, .inl qs)), (a2, .inl (cI, 33, .inl ts)), (a3, .inl (cI, 33, .inl bs))] H → va_S A s.heap H locs → lv_has ls 12 [(0, .ref h), (1, .long x1), (3, .long x3), (5, .long x5), (7, .long x7), (9, .int x9), (10, .int x10)] → W p l e (headSpec wsX0_wayLeadsToIt ({ frames := 2, cells := 0, slots := 0, locals := 43 })).room s m ([.ref h].toArray) below meth c H locs 0 0 (Qf rv) (F0 m 28 ls [])) (x1 : Int64) (x3 : Int64) (x5 : Int64) (x7 : Int64) (x9 : Int32) (x10 : Int32) (H : Heap) (locs : List Loc) (ls : Array Slot), fX0_wayLeadsToIt_B28 k28 qs ts bs cn x1 x3 x5 x7 x9 x10 = some rv → va_P G vwCl [(h, .inr (0, [.ref a1, .ref a2, .ref a3, .int cn])), (a1, .inl (cI, 32, .inl qs)), (a2, .inl (cI, 33, .inl ts)), (a3, .inl (cI, 33, .inl bs))] H → va_S A s.heap H locs → lv_has ls 12 [(0, .ref h), (1, .long x1), (3, .long x3), (5, .long x5), (7, .long x7), (9, .int x9), (10, .int x10)] → W p l e (headSpec wsX0_wayLeadsToIt ({ frames := 2, cells := 0, slots := 0, locals := 43 })).room s m ([.ref h].toArray) below meth c H locs 0 0 (Qf rv) (F0 m 28 ls []) := by
    intro k28 hk28  x1 x3 x5 x7 x9 x10 H locs ls hf hP hS hl
    unfold fX0_wayLeadsToIt_B28 at hf
    refine lv_iload hx hb dX0_wayLeadsToIt_28 (lv_at hl 6 rfl) ?_
    refine lv_iload hx hb dX0_wayLeadsToIt_30 (lv_at hl 5 rfl) ?_
    refine lv_icmp_ge (tgt := 95) hx hb dX0_wayLeadsToIt_32 (by decide) (fun c32 => ?_) (fun c32 => ?_)
    · have hf := it_t c32 hf
      refine lv_lload_n hx hb dX0_wayLeadsToIt_95 rfl (lv_at hl 1 rfl) ?_
      refine lv_lload hx hb dX0_wayLeadsToIt_96 (lv_at hl 3 rfl) ?_
      refine lv_ladd hx hb dX0_wayLeadsToIt_98 ?_
      refine lv_aload_n hx hb dX0_wayLeadsToIt_99 rfl (lv_at hl 0 rfl) ?_
      obtain ⟨r100, hv100, hf⟩ := bd1_s hf
      refine roVi (As := []) (rest := [.long (x1 + x5)]) ⟨hx, hb, hml, hown, hts⟩ (zX0_top l G cI _ h a1 a2 a3 qs ts bs cn  hv100) (cwV 0 hts gX0_wayLeadsToIt_X0_top rfl rfl rfl (by decide +kernel) ⟨Nat.le_of_ble_eq_true rfl, Nat.le_of_ble_eq_true rfl⟩) hK hP (hP.sub [0, 1, 2, 3] rfl) rfl rfl rfl hl.1 rfl (Nat.le_of_ble_eq_true rfl) dX0_wayLeadsToIt_100 ⟨Nat.le_of_ble_eq_true rfl, Nat.le_of_ble_eq_true rfl⟩ hS hA (fun H locs hP hz100 hS => ?_)
      refine lv_i2l hx hb dX0_wayLeadsToIt_103 rfl ?_
      refine W.lcmp hx hb dX0_wayLeadsToIt_104 ?_
      refine lv_if_ne (tgt := 125) hx hb dX0_wayLeadsToIt_105 (by decide) (fun c105 => ?_) (fun c105 => ?_)
      · have hf := it_f c105 hf
        refine lv_iconst (v := 0) hx hb dX0_wayLeadsToIt_125 (by decide) ?_
        refine qf_s (Qf := Qf) hf ?_
        rw [hQf]
        exact W.zret hx hb hr (by decide) (fun t ht hW => ⟨⟨_, (), rfl, rfl, trivial⟩, hS.F ht⟩) hS.2.2 dX0_wayLeadsToIt_126
      · have hf := it_t c105 hf
        refine lv_lload_n hx hb dX0_wayLeadsToIt_108 rfl (lv_at hl 2 rfl) ?_
        refine lv_lload hx hb dX0_wayLeadsToIt_109 (lv_at hl 4 rfl) ?_
        refine lv_ladd hx hb dX0_wayLeadsToIt_111 ?_
        refine lv_aload_n hx hb dX0_wayLeadsToIt_112 rfl (lv_at hl 0 rfl) ?_
        obtain ⟨r113, hv113, hf⟩ := bd1_s hf
        refine roVi (As := []) (rest := [.long (x3 + x7)]) ⟨hx, hb, hml, hown, hts⟩ (zX0_bottom l G cI _ h a1 a2 a3 qs ts bs cn  hv113) (cwV 0 hts gX0_wayLeadsToIt_X0_bottom rfl rfl rfl (by decide +kernel) ⟨Nat.le_of_ble_eq_true rfl, Nat.le_of_ble_eq_true rfl⟩) hK hP (hP.sub [0, 1, 2, 3] rfl) rfl rfl rfl hl.1 rfl (Nat.le_of_ble_eq_true rfl) dX0_wayLeadsToIt_113 ⟨Nat.le_of_ble_eq_true rfl, Nat.le_of_ble_eq_true rfl⟩ hS hA (fun H locs hP hz113 hS => ?_)
        refine lv_i2l hx hb dX0_wayLeadsToIt_116 rfl ?_
        refine W.lcmp hx hb dX0_wayLeadsToIt_117 ?_
        refine lv_if_ne (tgt := 125) hx hb dX0_wayLeadsToIt_118 (by decide) (fun c118 => ?_) (fun c118 => ?_)
        · have hf := it_f c118 hf
          refine lv_iconst (v := 0) hx hb dX0_wayLeadsToIt_125 (by decide) ?_
          refine qf_s (Qf := Qf) hf ?_
          rw [hQf]
          exact W.zret hx hb hr (by decide) (fun t ht hW => ⟨⟨_, (), rfl, rfl, trivial⟩, hS.F ht⟩) hS.2.2 dX0_wayLeadsToIt_126
        · have hf := it_t c118 hf
          refine lv_iconst (v := 1) hx hb dX0_wayLeadsToIt_121 (by decide) ?_
          refine lv_goto (tgt := 126) hx hb dX0_wayLeadsToIt_122 (by decide) ?_
          refine qf_s (Qf := Qf) hf ?_
          rw [hQf]
          exact W.zret hx hb hr (by decide) (fun t ht hW => ⟨⟨_, (), rfl, rfl, trivial⟩, hS.F ht⟩) hS.2.2 dX0_wayLeadsToIt_126
    · have hf := it_f c32 hf
      refine lv_aload_n hx hb dX0_wayLeadsToIt_35 rfl (lv_at hl 0 rfl) ?_
      refine lv_iload hx hb dX0_wayLeadsToIt_36 (lv_at hl 6 rfl) ?_
      obtain ⟨r38, hv38, hf⟩ := bd1_s hf
      refine roVi (As := [.int x10]) (rest := []) ⟨hx, hb, hml, hown, hts⟩ (zX0_stepsOfRun l G cI _ h a1 a2 a3 qs ts bs cn x10 hv38) (cwV 1 hts gX0_wayLeadsToIt_X0_stepsOfRun rfl rfl rfl (by decide +kernel) ⟨Nat.le_of_ble_eq_true rfl, Nat.le_of_ble_eq_true rfl⟩) hK hP (hP.sub [0, 1, 2, 3] rfl) rfl rfl rfl hl.1 rfl (Nat.le_of_ble_eq_true rfl) dX0_wayLeadsToIt_38 ⟨Nat.le_of_ble_eq_true rfl, Nat.le_of_ble_eq_true rfl⟩ hS hA (fun H locs hP hz38 hS => ?_)
      refine lv_istore (lv' := [(11, .int r38), (0, .ref h), (1, .long x1), (3, .long x3), (5, .long x5), (7, .long x7), (9, .int x9), (10, .int x10)]) hx hb dX0_wayLeadsToIt_41 hl (by decide) rfl (fun ls hl => ?_)
      refine lv_iload hx hb dX0_wayLeadsToIt_43 (lv_at hl 0 rfl) ?_
      refine lv_if_le (tgt := 69) hx hb dX0_wayLeadsToIt_45 (by decide) (fun c45 => ?_) (fun c45 => ?_)
      · have hf := it_t c45 hf
        refine lv_lload hx hb dX0_wayLeadsToIt_69 (lv_at hl 4 rfl) ?_
        refine lv_iload hx hb dX0_wayLeadsToIt_71 (lv_at hl 0 rfl) ?_
        refine lv_i2l hx hb dX0_wayLeadsToIt_73 rfl ?_
        refine lv_lload_n hx hb dX0_wayLeadsToIt_74 rfl (lv_at hl 2 rfl) ?_
        refine lv_lmul hx hb dX0_wayLeadsToIt_75 ?_
        refine lv_lsub hx hb dX0_wayLeadsToIt_76 ?_
        refine lv_topl (fun v77 ev77 => ?_)
        have hf := nm_s ev77 hf
        refine lv_lstore (lv' := [(5, .long v77), (11, .int r38), (0, .ref h), (1, .long x1), (3, .long x3), (7, .long x7), (9, .int x9), (10, .int x10)]) hx hb dX0_wayLeadsToIt_77 hl (by decide) rfl (fun ls hl => ?_)
        refine lv_lload hx hb dX0_wayLeadsToIt_79 (lv_at hl 5 rfl) ?_
        refine lv_iload hx hb dX0_wayLeadsToIt_81 (lv_at hl 1 rfl) ?_
        refine lv_i2l hx hb dX0_wayLeadsToIt_83 rfl ?_
        refine lv_lload_n hx hb dX0_wayLeadsToIt_84 rfl (lv_at hl 4 rfl) ?_
        refine lv_lmul hx hb dX0_wayLeadsToIt_85 ?_
        refine lv_lsub hx hb dX0_wayLeadsToIt_86 ?_
        refine lv_topl (fun v87 ev87 => ?_)
        have hf := nm_s ev87 hf
        refine lv_lstore (lv' := [(7, .long v87), (5, .long v77), (11, .int r38), (0, .ref h), (1, .long x1), (3, .long x3), (9, .int x9), (10, .int x10)]) hx hb dX0_wayLeadsToIt_87 hl (by decide) rfl (fun ls hl => ?_)
        exact J89 k28 hk28  x1 x3 v77 v87 x9 x10 _ _ _ hf hP hS (lv_sub hl [3, 4, 5, 1, 0, 6, 7] rfl)
      · have hf := it_f c45 hf
        refine lv_lload_n hx hb dX0_wayLeadsToIt_48 rfl (lv_at hl 2 rfl) ?_
        refine lv_iload hx hb dX0_wayLeadsToIt_49 (lv_at hl 0 rfl) ?_
        refine lv_i2l hx hb dX0_wayLeadsToIt_51 rfl ?_
        refine lv_lload hx hb dX0_wayLeadsToIt_52 (lv_at hl 4 rfl) ?_
        refine lv_lmul hx hb dX0_wayLeadsToIt_54 ?_
        refine lv_ladd hx hb dX0_wayLeadsToIt_55 ?_
        refine lv_topl (fun v56 ev56 => ?_)
        have hf := nm_s ev56 hf
        refine lv_lstore_n (lv' := [(1, .long v56), (11, .int r38), (0, .ref h), (3, .long x3), (5, .long x5), (7, .long x7), (9, .int x9), (10, .int x10)]) hx hb dX0_wayLeadsToIt_56 rfl hl (by decide) rfl (fun ls hl => ?_)
        refine lv_lload_n hx hb dX0_wayLeadsToIt_57 rfl (lv_at hl 3 rfl) ?_
        refine lv_iload hx hb dX0_wayLeadsToIt_58 (lv_at hl 1 rfl) ?_
        refine lv_i2l hx hb dX0_wayLeadsToIt_60 rfl ?_
        refine lv_lload hx hb dX0_wayLeadsToIt_61 (lv_at hl 5 rfl) ?_
        refine lv_lmul hx hb dX0_wayLeadsToIt_63 ?_
        refine lv_ladd hx hb dX0_wayLeadsToIt_64 ?_
        refine lv_topl (fun v65 ev65 => ?_)
        have hf := nm_s ev65 hf
        refine lv_lstore_n (lv' := [(3, .long v65), (1, .long v56), (11, .int r38), (0, .ref h), (5, .long x5), (7, .long x7), (9, .int x9), (10, .int x10)]) hx hb dX0_wayLeadsToIt_65 rfl hl (by decide) rfl (fun ls hl => ?_)
        refine lv_goto (tgt := 89) hx hb dX0_wayLeadsToIt_66 (by decide) ?_
        exact J89 k28 hk28  v56 v65 x5 x7 x9 x10 _ _ _ hf hP hS (lv_sub hl [3, 1, 0, 4, 5, 6, 7] rfl)
  have L28 : ∀ (fu : Nat) (x1 : Int64) (x3 : Int64) (x5 : Int64) (x7 : Int64) (x9 : Int32) (x10 : Int32) (H : Heap) (locs : List Loc) (ls : Array Slot), fX0_wayLeadsToIt_L28  qs ts bs cn fu x1 x3 x5 x7 x9 x10 = some rv → va_P G vwCl [(h, .inr (0, [.ref a1, .ref a2, .ref a3, .int cn])), (a1, .inl (cI, 32, .inl qs)), (a2, .inl (cI, 33, .inl ts)), (a3, .inl (cI, 33, .inl bs))] H → va_S A s.heap H locs → lv_has ls 12 [(0, .ref h), (1, .long x1), (3, .long x3), (5, .long x5), (7, .long x7), (9, .int x9), (10, .int x10)] → W p l e (headSpec wsX0_wayLeadsToIt ({ frames := 2, cells := 0, slots := 0, locals := 43 })).room s m ([.ref h].toArray) below meth c H locs 0 0 (Qf rv) (F0 m 28 ls []) := by
    intro  fu
    induction fu with
    | zero => intro  x1 x3 x5 x7 x9 x10 H locs ls hf; cases hf
    | succ fu ih => intro  x1 x3 x5 x7 x9 x10 H locs ls hf hP hS hl; exact B28 (fX0_wayLeadsToIt_L28  qs ts bs cn fu) ih  x1 x3 x5 x7 x9 x10 _ _ _ hf hP hS hl
  have hl := lv_entry ([.ref h]) (n := 12) (Nat.le_of_ble_eq_true rfl)
  rw [lg_entry_eq]
  generalize (lg_sl ([.ref h]) ++ List.replicate (12 - (lg_sl ([.ref h])).length) Slot.unset).toArray = ls at hl ⊢
  have hl : lv_has ls 12 [(0, .ref h)] := hl
  unfold fX0_wayLeadsToIt at hf
  refine lv_aload_n hx hb dX0_wayLeadsToIt_0 rfl (lv_at hl 0 rfl) ?_
  obtain ⟨r1, hv1, hf⟩ := bd1_s hf
  refine roVi (As := []) (rest := []) ⟨hx, hb, hml, hown, hts⟩ (zX0_top l G cI _ h a1 a2 a3 qs ts bs cn  hv1) (cwV 0 hts gX0_wayLeadsToIt_X0_top rfl rfl rfl (by decide +kernel) ⟨Nat.le_of_ble_eq_true rfl, Nat.le_of_ble_eq_true rfl⟩) hK hP (hP.sub [0, 1, 2, 3] rfl) rfl rfl rfl hl.1 rfl (Nat.le_of_ble_eq_true rfl) dX0_wayLeadsToIt_1 ⟨Nat.le_of_ble_eq_true rfl, Nat.le_of_ble_eq_true rfl⟩ hS hA (fun H locs hP hz1 hS => ?_)
  refine lv_if_ne (tgt := 9) hx hb dX0_wayLeadsToIt_4 (by decide) (fun c4 => ?_) (fun c4 => ?_)
  · have hf := it_f c4 hf
    refine lv_lconst (v := 0) hx hb dX0_wayLeadsToIt_9 (by decide) ?_
    refine lv_lstore_n (lv' := [(1, .long 0), (0, .ref h)]) hx hb dX0_wayLeadsToIt_10 rfl hl (by decide) rfl (fun ls hl => ?_)
    refine lv_lconst (v := 1) hx hb dX0_wayLeadsToIt_11 (by decide) ?_
    refine lv_lstore_n (lv' := [(3, .long 1), (1, .long 0), (0, .ref h)]) hx hb dX0_wayLeadsToIt_12 rfl hl (by decide) rfl (fun ls hl => ?_)
    refine lv_lconst (v := 1) hx hb dX0_wayLeadsToIt_13 (by decide) ?_
    refine lv_lstore (lv' := [(5, .long 1), (3, .long 1), (1, .long 0), (0, .ref h)]) hx hb dX0_wayLeadsToIt_14 hl (by decide) rfl (fun ls hl => ?_)
    refine lv_lconst (v := 0) hx hb dX0_wayLeadsToIt_16 (by decide) ?_
    refine lv_lstore (lv' := [(7, .long 0), (5, .long 1), (3, .long 1), (1, .long 0), (0, .ref h)]) hx hb dX0_wayLeadsToIt_17 hl (by decide) rfl (fun ls hl => ?_)
    refine lv_aload_n hx hb dX0_wayLeadsToIt_19 rfl (lv_at hl 4 rfl) ?_
    obtain ⟨r20, hv20, hf⟩ := bd1_s hf
    refine roVi (As := []) (rest := []) ⟨hx, hb, hml, hown, hts⟩ (zX0_countRuns l G cI _ h a1 a2 a3 qs ts bs cn  hv20) (cwV 0 hts gX0_wayLeadsToIt_X0_countRuns rfl rfl rfl (by decide +kernel) ⟨Nat.le_of_ble_eq_true rfl, Nat.le_of_ble_eq_true rfl⟩) hK hP (hP.sub [0, 1, 2, 3] rfl) rfl rfl rfl hl.1 rfl (Nat.le_of_ble_eq_true rfl) dX0_wayLeadsToIt_20 ⟨Nat.le_of_ble_eq_true rfl, Nat.le_of_ble_eq_true rfl⟩ hS hA (fun H locs hP hz20 hS => ?_)
    refine lv_istore (lv' := [(9, .int r20), (7, .long 0), (5, .long 1), (3, .long 1), (1, .long 0), (0, .ref h)]) hx hb dX0_wayLeadsToIt_23 hl (by decide) rfl (fun ls hl => ?_)
    refine lv_iconst (v := 0) hx hb dX0_wayLeadsToIt_25 (by decide) ?_
    refine lv_istore (lv' := [(10, .int 0), (9, .int r20), (7, .long 0), (5, .long 1), (3, .long 1), (1, .long 0), (0, .ref h)]) hx hb dX0_wayLeadsToIt_26 hl (by decide) rfl (fun ls hl => ?_)
    exact L28  FU  0 1 1 0 r20 0 _ _ _ hf hP hS (lv_sub hl [6, 5, 4, 3, 2, 1, 0] rfl)
  · have hf := it_t c4 hf
    refine lv_iconst (v := 1) hx hb dX0_wayLeadsToIt_7 (by decide) ?_
    refine qf_s (Qf := Qf) hf ?_
    rw [hQf]
    exact W.zret hx hb hr (by decide) (fun t ht hW => ⟨⟨_, (), rfl, rfl, trivial⟩, hS.F ht⟩) hS.2.2 dX0_wayLeadsToIt_8
def fX0_nearWithin_J112 (ts : Nat → Int32) (bs : Nat → Int32) (cn : Int32) (x2 : Int32) (y0 : Int32) (q6_0 : Int32) (q6_1 : Int32) (q57_0 : Int32) (q57_1 : Int32) : Option (Int32 × Int32) :=
  if y0 = 0 then
    if y0 = 0 then
      if x2 = 2 then
        bd1 (fX0_isLowerNearer ts bs cn q57_0 q57_1 q6_0 q6_1) fun r152 =>
        if r152 = 0 then
          some (q6_0, q6_1)
        else
          some (q57_0, q57_1)
      else
        if x2 = 0 then
          some (q57_0, q57_1)
        else
          some (q6_0, q6_1)
    else
      if x2 = 2 then
        bd1 (fX0_isLowerNearer ts bs cn q57_0 q57_1 q57_0 q57_1) fun r152 =>
        if r152 = 0 then
          some (q57_0, q57_1)
        else
          some (q57_0, q57_1)
      else
        if x2 = 0 then
          some (q57_0, q57_1)
        else
          some (q57_0, q57_1)
  else
    if y0 = 0 then
      if x2 = 2 then
        bd1 (fX0_isLowerNearer ts bs cn q6_0 q6_1 q6_0 q6_1) fun r152 =>
        if r152 = 0 then
          some (q6_0, q6_1)
        else
          some (q6_0, q6_1)
      else
        if x2 = 0 then
          some (q6_0, q6_1)
        else
          some (q6_0, q6_1)
    else
      if x2 = 2 then
        bd1 (fX0_isLowerNearer ts bs cn q6_0 q6_1 q57_0 q57_1) fun r152 =>
        if r152 = 0 then
          some (q57_0, q57_1)
        else
          some (q6_0, q6_1)
      else
        if x2 = 0 then
          some (q6_0, q6_1)
        else
          some (q57_0, q57_1)
def fX0_nearWithin_J55 (ts : Nat → Int32) (bs : Nat → Int32) (cn : Int32) (x2 : Int32) (x3 : Int32) (y0 : Int32) (q6_0 : Int32) (q6_1 : Int32) : Option (Int32 × Int32) :=
  ckI (x3 - 1) 33 <|
  ckI (x3 - 1) 33 <|
  bd2 (fX1_init 0 0 ((ts (Int32.toNatClampNeg (x3 - 1))) + (y0 * q6_0)) ((bs (Int32.toNatClampNeg (x3 - 1))) + (y0 * q6_1))) fun ft_95 fb_95 =>
  ckZ 2 <|
  if (x3 - x3 / 2 * 2) = 1 then
    fX0_nearWithin_J112  ts bs cn x2 1 q6_0 q6_1 ft_95 fb_95
  else
    fX0_nearWithin_J112  ts bs cn x2 0 q6_0 q6_1 ft_95 fb_95
def fX0_nearWithin (ts : Nat → Int32) (bs : Nat → Int32) (cn : Int32) (p1 : Int32) (p2 : Int32) : Option (Int32 × Int32) :=
  bd1 (fX0_lastWithin bs cn p1) fun r2 =>
  ckI r2 33 <|
  ckI r2 33 <|
  bd2 (fX1_init 0 0 (ts (Int32.toNatClampNeg r2)) (bs (Int32.toNatClampNeg r2))) fun ft_22 fb_22 =>
  if fb_22 ≤ 0 then
    fX0_nearWithin_J55  ts bs cn p2 r2 0 ft_22 fb_22
  else
    ckI (r2 - 1) 33 <|
    ckZ fb_22 <|
    fX0_nearWithin_J55  ts bs cn p2 r2 ((p1 - (bs (Int32.toNatClampNeg (r2 - 1)))) / fb_22) ft_22 fb_22
set_option maxHeartbeats 4000000 in
set_option maxRecDepth 100000 in
theorem zX0_nearWithin (l : Launch) (G : va_G) (cI : ClassId) (sz : Nat) (h a1 a2 a3 : Nat) (qs : Nat → Int32) (ts : Nat → Int32) (bs : Nat → Int32) (cn : Int32) (p1 : Int32) (p2 : Int32) {rv1 : Int32} {rv2 : Int32} (hf : fX0_nearWithin ts bs cn p1 p2 = some (rv1, rv2)) : mNr l yX0_nearWithin wsX0_nearWithin ({ frames := 2, cells := 2, slots := 4, locals := 46 }) [.ref h, .int p1, .int p2] G cI [(h, .inr (0, [.ref a1, .ref a2, .ref a3, .int cn])), (a1, .inl (cI, 32, .inl qs)), (a2, .inl (cI, 33, .inl ts)), (a3, .inl (cI, 33, .inl bs))] sz (.inr (1, [.int rv1, .int rv2])) 2 4 := by
  refine Met.ofW (cc := cX0_nearWithin) (maxL := 10) (ret := (some (.object "SternDesk$Fraction"))) (by decide) rfl ?_
  intro p e s m args below meth c s₁ B hml hv
  obtain ⟨rfl, hsz, hP, hK, hD0⟩ := hv
  have hx := B.exec
  have hb := B.bytes
  have hr := B.returns
  have hts := atoms_spec (ws := wsX0_nearWithin) B.pre
  have hown : s.vm.findClass RX0 = some m.cls := findClass_of_methodNamed B.named
  have hlocks := B.notSynchronized
  subst hsz
  have hD := hD0.self (sz := s.heap.size)
  generalize hAe : va_A [(h, .inr (0, [.ref a1, .ref a2, .ref a3, .int cn])), (a1, .inl (cI, 32, .inl qs)), (a2, .inl (cI, 33, .inl ts)), (a3, .inl (cI, 33, .inl bs))] s.heap.size = A at hD ⊢
  have hA : ∀ q : Nat, s.heap.size ≤ q → A q := fun q h => by rw [← hAe]; exact Or.inr h
  have hS : va_S A s.heap s.heap [] := va_S.rf
  have hinX1 : ∀ w ∈ u_ws RX1 TX1 2, w ∈ wsX0_nearWithin := by decide +kernel
  have w1 := hts (.classLink RX0 48 RX1) (by decide +kernel)
  have w2 := hts (.instantiable RX1 2) (by decide +kernel)
  have w3 := hts (.initialized RX1) (by decide +kernel)
  have w4 := hts (.fieldLink RX0 15 "SternDesk$Expansion" "tops" "[I") (by decide +kernel)
  have hinX0 : ∀ w ∈ u_ws RX0 TX0 4, w ∈ wsX0_nearWithin := by decide +kernel
  have w6 := hts (.fieldLink RX0 18 "SternDesk$Expansion" "bottoms" "[I") (by decide +kernel)
  have w7 := hts (.methodLink RX0 50 yX1_init) (by decide +kernel)
  have w8 := hts (.instanceMethod yX1_init) (by decide +kernel)
  have w9 := hts (.fieldLink RX0 57 "SternDesk$Fraction" "bottom" "I") (by decide +kernel)
  have w10 := hts (.fieldLink RX0 59 "SternDesk$Fraction" "top" "I") (by decide +kernel)
  obtain ⟨Qf, hQf⟩ : ∃ f : (Int32 × Int32) → State → Prop, f = fun z => MQ below (va_Qr (fun (_ : Unit) => True) (fun _ a t => va_P G vwCl ([(h, .inr (0, [.ref a1, .ref a2, .ref a3, .int cn])), (a1, .inl (cI, 32, .inl qs)), (a2, .inl (cI, 33, .inl ts)), (a3, .inl (cI, 33, .inl bs))] ++ [(a, .inr (1, [.int z.1, .int z.2]))]) t.heap ∧ va_D A ([(h, .inr (0, [.ref a1, .ref a2, .ref a3, .int cn])), (a1, .inl (cI, 32, .inl qs)), (a2, .inl (cI, 33, .inl ts)), (a3, .inl (cI, 33, .inl bs))] ++ [(a, .inr (1, [.int z.1, .int z.2]))])) A) ([.ref h, .int p1, .int p2].toArray) s 2 4 A := ⟨_, rfl⟩
  suffices hgo : W p l e (headSpec wsX0_nearWithin ({ frames := 2, cells := 2, slots := 4, locals := 46 })).room s m ([.ref h, .int p1, .int p2].toArray) below meth c s.heap [] 0 0 (Qf (rv1, rv2)) (entryFrame m ([.ref h, .int p1, .int p2].toArray) 10) by rw [hQf] at hgo; exact hgo
  have J112 : ∀ (q6 : Nat) (q57 : Nat) (x2 : Int32) (y0 : Int32) (q6_0 : Int32) (q6_1 : Int32) (q57_0 : Int32) (q57_1 : Int32) (H : Heap) (locs : List Loc) (ls : Array Slot), fX0_nearWithin_J112  ts bs cn x2 y0 q6_0 q6_1 q57_0 q57_1 = some (rv1, rv2) → va_P G vwCl [(h, .inr (0, [.ref a1, .ref a2, .ref a3, .int cn])), (a1, .inl (cI, 32, .inl qs)), (a2, .inl (cI, 33, .inl ts)), (a3, .inl (cI, 33, .inl bs)), (q6, .inr (1, [.int q6_0, .int q6_1])), (q57, .inr (1, [.int q57_0, .int q57_1]))] H → va_D A [(h, .inr (0, [.ref a1, .ref a2, .ref a3, .int cn])), (a1, .inl (cI, 32, .inl qs)), (a2, .inl (cI, 33, .inl ts)), (a3, .inl (cI, 33, .inl bs)), (q6, .inr (1, [.int q6_0, .int q6_1])), (q57, .inr (1, [.int q57_0, .int q57_1]))] → va_S A s.heap H locs → lv_has ls 10 [(0, .ref h), (2, .int x2), (4, .ref q6), (6, .ref q57)] → W p l e (headSpec wsX0_nearWithin ({ frames := 2, cells := 2, slots := 4, locals := 46 })).room s m ([.ref h, .int p1, .int p2].toArray) below meth c H locs 2 4 (Qf (rv1, rv2)) (F0 m 112 ls [.int y0]) := by
    intro  q6 q57 x2 y0 q6_0 q6_1 q57_0 q57_1 H locs ls hf hP hD hS hl
    unfold fX0_nearWithin_J112 at hf
    refine lv_istore (lv' := [(7, .int y0), (0, .ref h), (2, .int x2), (4, .ref q6), (6, .ref q57)]) hx hb dX0_nearWithin_112 hl (by decide) rfl (fun ls hl => ?_)
    refine lv_iload hx hb dX0_nearWithin_114 (lv_at hl 0 rfl) ?_
    refine lv_if_eq (tgt := 124) hx hb dX0_nearWithin_116 (by decide) (fun c116 => ?_) (fun c116 => ?_)
    · have hf := it_t c116 hf
      refine lv_aload hx hb dX0_nearWithin_124 (lv_at hl 4 rfl) ?_
      refine lv_astore (lv' := [(8, .ref q57), (7, .int y0), (0, .ref h), (2, .int x2), (4, .ref q6), (6, .ref q57)]) hx hb dX0_nearWithin_126 hl (by decide) rfl (fun ls hl => ?_)
      refine lv_iload hx hb dX0_nearWithin_128 (lv_at hl 1 rfl) ?_
      refine lv_if_eq (tgt := 138) hx hb dX0_nearWithin_130 (by decide) (fun c130 => ?_) (fun c130 => ?_)
      · have hf := it_t c130 hf
        refine lv_aload hx hb dX0_nearWithin_138 (lv_at hl 4 rfl) ?_
        refine lv_astore (lv' := [(9, .ref q6), (8, .ref q57), (7, .int y0), (0, .ref h), (2, .int x2), (4, .ref q6), (6, .ref q57)]) hx hb dX0_nearWithin_140 hl (by decide) rfl (fun ls hl => ?_)
        refine lv_iload_n hx hb dX0_nearWithin_142 rfl (lv_at hl 4 rfl) ?_
        refine lv_iconst (v := 2) hx hb dX0_nearWithin_143 (by decide) ?_
        refine lv_icmp_ne (tgt := 166) hx hb dX0_nearWithin_144 (by decide) (fun c144 => ?_) (fun c144 => ?_)
        · have hf := it_f c144 hf
          refine lv_iload_n hx hb dX0_nearWithin_166 rfl (lv_at hl 4 rfl) ?_
          refine lv_if_ne (tgt := 175) hx hb dX0_nearWithin_167 (by decide) (fun c167 => ?_) (fun c167 => ?_)
          · have hf := it_f c167 hf
            refine lv_aload hx hb dX0_nearWithin_175 (lv_at hl 0 rfl) ?_
            refine qf_s (Qf := Qf) hf ?_
            refine W.widen (k := 2) (n := 4) (Nat.le_of_ble_eq_true rfl) (Nat.le_of_ble_eq_true rfl) ?_
            have hP9 : va_P G vwCl [(h, .inr (0, [.ref a1, .ref a2, .ref a3, .int cn])), (a1, .inl (cI, 32, .inl qs)), (a2, .inl (cI, 33, .inl ts)), (a3, .inl (cI, 33, .inl bs)), (q6, .inr (1, [.int q6_0, .int q6_1]))] _ := hP.sub [0, 1, 2, 3, 4] rfl
            have hD9 : va_D A [(h, .inr (0, [.ref a1, .ref a2, .ref a3, .int cn])), (a1, .inl (cI, 32, .inl qs)), (a2, .inl (cI, 33, .inl ts)), (a3, .inl (cI, 33, .inl bs)), (q6, .inr (1, [.int q6_0, .int q6_1]))] := hD.sub [0, 1, 2, 3, 4] (by decide) rfl
            rw [hQf]
            exact W.aret hx hb hr (Or.inl ⟨_, rfl⟩) (Or.inr ⟨_, rfl⟩) (fun t ht hW => ⟨⟨(), _, rfl, trivial, by rw [ht]; exact hP9, hD9⟩, hS.F ht⟩) hS.2.2 dX0_nearWithin_177
          · have hf := it_t c167 hf
            refine lv_aload hx hb dX0_nearWithin_170 (lv_at hl 1 rfl) ?_
            refine lv_goto (tgt := 177) hx hb dX0_nearWithin_172 (by decide) ?_
            refine qf_s (Qf := Qf) hf ?_
            refine W.widen (k := 2) (n := 4) (Nat.le_of_ble_eq_true rfl) (Nat.le_of_ble_eq_true rfl) ?_
            have hP9 : va_P G vwCl [(h, .inr (0, [.ref a1, .ref a2, .ref a3, .int cn])), (a1, .inl (cI, 32, .inl qs)), (a2, .inl (cI, 33, .inl ts)), (a3, .inl (cI, 33, .inl bs)), (q57, .inr (1, [.int q57_0, .int q57_1]))] _ := hP.sub [0, 1, 2, 3, 5] rfl
            have hD9 : va_D A [(h, .inr (0, [.ref a1, .ref a2, .ref a3, .int cn])), (a1, .inl (cI, 32, .inl qs)), (a2, .inl (cI, 33, .inl ts)), (a3, .inl (cI, 33, .inl bs)), (q57, .inr (1, [.int q57_0, .int q57_1]))] := hD.sub [0, 1, 2, 3, 5] (by decide) rfl
            rw [hQf]
            exact W.aret hx hb hr (Or.inl ⟨_, rfl⟩) (Or.inr ⟨_, rfl⟩) (fun t ht hW => ⟨⟨(), _, rfl, trivial, by rw [ht]; exact hP9, hD9⟩, hS.F ht⟩) hS.2.2 dX0_nearWithin_177
        · have hf := it_t c144 hf
          refine lv_aload_n hx hb dX0_nearWithin_147 rfl (lv_at hl 3 rfl) ?_
          refine lv_aload hx hb dX0_nearWithin_148 (lv_at hl 1 rfl) ?_
          refine lv_aload hx hb dX0_nearWithin_150 (lv_at hl 0 rfl) ?_
          obtain ⟨r152, hv152, hf⟩ := bd1_s hf
          refine roVi (As := [.ref q57, .ref q6]) (rest := []) ⟨hx, hb, hml, hown, hts⟩ (zX0_isLowerNearer l G cI _ h a1 a2 a3 q57 q6 qs ts bs cn q57_0 q57_1 q6_0 q6_1  hv152) (cwV 2 hts gX0_nearWithin_X0_isLowerNearer rfl rfl rfl (by decide +kernel) ⟨Nat.le_of_ble_eq_true rfl, Nat.le_of_ble_eq_true rfl⟩) hK hP (hP.sub [0, 1, 2, 3, 5, 4] rfl) rfl rfl rfl hl.1 rfl (Nat.le_of_ble_eq_true rfl) dX0_nearWithin_152 ⟨Nat.le_of_ble_eq_true rfl, Nat.le_of_ble_eq_true rfl⟩ hS hA (fun H locs hP hz152 hS => ?_)
          refine lv_if_eq (tgt := 163) hx hb dX0_nearWithin_155 (by decide) (fun c155 => ?_) (fun c155 => ?_)
          · have hf := it_t c155 hf
            refine lv_aload hx hb dX0_nearWithin_163 (lv_at hl 0 rfl) ?_
            refine qf_s (Qf := Qf) hf ?_
            refine W.widen (k := 2) (n := 4) (Nat.le_of_ble_eq_true rfl) (Nat.le_of_ble_eq_true rfl) ?_
            have hP9 : va_P G vwCl [(h, .inr (0, [.ref a1, .ref a2, .ref a3, .int cn])), (a1, .inl (cI, 32, .inl qs)), (a2, .inl (cI, 33, .inl ts)), (a3, .inl (cI, 33, .inl bs)), (q6, .inr (1, [.int q6_0, .int q6_1]))] _ := hP.sub [0, 1, 2, 3, 4] rfl
            have hD9 : va_D A [(h, .inr (0, [.ref a1, .ref a2, .ref a3, .int cn])), (a1, .inl (cI, 32, .inl qs)), (a2, .inl (cI, 33, .inl ts)), (a3, .inl (cI, 33, .inl bs)), (q6, .inr (1, [.int q6_0, .int q6_1]))] := hD.sub [0, 1, 2, 3, 4] (by decide) rfl
            rw [hQf]
            exact W.aret hx hb hr (Or.inl ⟨_, rfl⟩) (Or.inr ⟨_, rfl⟩) (fun t ht hW => ⟨⟨(), _, rfl, trivial, by rw [ht]; exact hP9, hD9⟩, hS.F ht⟩) hS.2.2 dX0_nearWithin_165
          · have hf := it_f c155 hf
            refine lv_aload hx hb dX0_nearWithin_158 (lv_at hl 1 rfl) ?_
            refine lv_goto (tgt := 165) hx hb dX0_nearWithin_160 (by decide) ?_
            refine qf_s (Qf := Qf) hf ?_
            refine W.widen (k := 2) (n := 4) (Nat.le_of_ble_eq_true rfl) (Nat.le_of_ble_eq_true rfl) ?_
            have hP9 : va_P G vwCl [(h, .inr (0, [.ref a1, .ref a2, .ref a3, .int cn])), (a1, .inl (cI, 32, .inl qs)), (a2, .inl (cI, 33, .inl ts)), (a3, .inl (cI, 33, .inl bs)), (q57, .inr (1, [.int q57_0, .int q57_1]))] _ := hP.sub [0, 1, 2, 3, 5] rfl
            have hD9 : va_D A [(h, .inr (0, [.ref a1, .ref a2, .ref a3, .int cn])), (a1, .inl (cI, 32, .inl qs)), (a2, .inl (cI, 33, .inl ts)), (a3, .inl (cI, 33, .inl bs)), (q57, .inr (1, [.int q57_0, .int q57_1]))] := hD.sub [0, 1, 2, 3, 5] (by decide) rfl
            rw [hQf]
            exact W.aret hx hb hr (Or.inl ⟨_, rfl⟩) (Or.inr ⟨_, rfl⟩) (fun t ht hW => ⟨⟨(), _, rfl, trivial, by rw [ht]; exact hP9, hD9⟩, hS.F ht⟩) hS.2.2 dX0_nearWithin_165
      · have hf := it_f c130 hf
        refine lv_aload hx hb dX0_nearWithin_133 (lv_at hl 5 rfl) ?_
        refine lv_goto (tgt := 140) hx hb dX0_nearWithin_135 (by decide) ?_
        refine lv_astore (lv' := [(9, .ref q57), (8, .ref q57), (7, .int y0), (0, .ref h), (2, .int x2), (4, .ref q6), (6, .ref q57)]) hx hb dX0_nearWithin_140 hl (by decide) rfl (fun ls hl => ?_)
        refine lv_iload_n hx hb dX0_nearWithin_142 rfl (lv_at hl 4 rfl) ?_
        refine lv_iconst (v := 2) hx hb dX0_nearWithin_143 (by decide) ?_
        refine lv_icmp_ne (tgt := 166) hx hb dX0_nearWithin_144 (by decide) (fun c144 => ?_) (fun c144 => ?_)
        · have hf := it_f c144 hf
          refine lv_iload_n hx hb dX0_nearWithin_166 rfl (lv_at hl 4 rfl) ?_
          refine lv_if_ne (tgt := 175) hx hb dX0_nearWithin_167 (by decide) (fun c167 => ?_) (fun c167 => ?_)
          · have hf := it_f c167 hf
            refine lv_aload hx hb dX0_nearWithin_175 (lv_at hl 0 rfl) ?_
            refine qf_s (Qf := Qf) hf ?_
            refine W.widen (k := 2) (n := 4) (Nat.le_of_ble_eq_true rfl) (Nat.le_of_ble_eq_true rfl) ?_
            have hP9 : va_P G vwCl [(h, .inr (0, [.ref a1, .ref a2, .ref a3, .int cn])), (a1, .inl (cI, 32, .inl qs)), (a2, .inl (cI, 33, .inl ts)), (a3, .inl (cI, 33, .inl bs)), (q57, .inr (1, [.int q57_0, .int q57_1]))] _ := hP.sub [0, 1, 2, 3, 5] rfl
            have hD9 : va_D A [(h, .inr (0, [.ref a1, .ref a2, .ref a3, .int cn])), (a1, .inl (cI, 32, .inl qs)), (a2, .inl (cI, 33, .inl ts)), (a3, .inl (cI, 33, .inl bs)), (q57, .inr (1, [.int q57_0, .int q57_1]))] := hD.sub [0, 1, 2, 3, 5] (by decide) rfl
            rw [hQf]
            exact W.aret hx hb hr (Or.inl ⟨_, rfl⟩) (Or.inr ⟨_, rfl⟩) (fun t ht hW => ⟨⟨(), _, rfl, trivial, by rw [ht]; exact hP9, hD9⟩, hS.F ht⟩) hS.2.2 dX0_nearWithin_177
          · have hf := it_t c167 hf
            refine lv_aload hx hb dX0_nearWithin_170 (lv_at hl 1 rfl) ?_
            refine lv_goto (tgt := 177) hx hb dX0_nearWithin_172 (by decide) ?_
            refine qf_s (Qf := Qf) hf ?_
            refine W.widen (k := 2) (n := 4) (Nat.le_of_ble_eq_true rfl) (Nat.le_of_ble_eq_true rfl) ?_
            have hP9 : va_P G vwCl [(h, .inr (0, [.ref a1, .ref a2, .ref a3, .int cn])), (a1, .inl (cI, 32, .inl qs)), (a2, .inl (cI, 33, .inl ts)), (a3, .inl (cI, 33, .inl bs)), (q57, .inr (1, [.int q57_0, .int q57_1]))] _ := hP.sub [0, 1, 2, 3, 5] rfl
            have hD9 : va_D A [(h, .inr (0, [.ref a1, .ref a2, .ref a3, .int cn])), (a1, .inl (cI, 32, .inl qs)), (a2, .inl (cI, 33, .inl ts)), (a3, .inl (cI, 33, .inl bs)), (q57, .inr (1, [.int q57_0, .int q57_1]))] := hD.sub [0, 1, 2, 3, 5] (by decide) rfl
            rw [hQf]
            exact W.aret hx hb hr (Or.inl ⟨_, rfl⟩) (Or.inr ⟨_, rfl⟩) (fun t ht hW => ⟨⟨(), _, rfl, trivial, by rw [ht]; exact hP9, hD9⟩, hS.F ht⟩) hS.2.2 dX0_nearWithin_177
        · have hf := it_t c144 hf
          refine lv_aload_n hx hb dX0_nearWithin_147 rfl (lv_at hl 3 rfl) ?_
          refine lv_aload hx hb dX0_nearWithin_148 (lv_at hl 1 rfl) ?_
          refine lv_aload hx hb dX0_nearWithin_150 (lv_at hl 0 rfl) ?_
          obtain ⟨r152, hv152, hf⟩ := bd1_s hf
          refine roVi (As := [.ref q57, .ref q57]) (rest := []) ⟨hx, hb, hml, hown, hts⟩ (zX0_isLowerNearer l G cI _ h a1 a2 a3 q57 q57 qs ts bs cn q57_0 q57_1 q57_0 q57_1  hv152) (cwV 2 hts gX0_nearWithin_X0_isLowerNearer rfl rfl rfl (by decide +kernel) ⟨Nat.le_of_ble_eq_true rfl, Nat.le_of_ble_eq_true rfl⟩) hK hP (hP.sub [0, 1, 2, 3, 5, 5] rfl) rfl rfl rfl hl.1 rfl (Nat.le_of_ble_eq_true rfl) dX0_nearWithin_152 ⟨Nat.le_of_ble_eq_true rfl, Nat.le_of_ble_eq_true rfl⟩ hS hA (fun H locs hP hz152 hS => ?_)
          refine lv_if_eq (tgt := 163) hx hb dX0_nearWithin_155 (by decide) (fun c155 => ?_) (fun c155 => ?_)
          · have hf := it_t c155 hf
            refine lv_aload hx hb dX0_nearWithin_163 (lv_at hl 0 rfl) ?_
            refine qf_s (Qf := Qf) hf ?_
            refine W.widen (k := 2) (n := 4) (Nat.le_of_ble_eq_true rfl) (Nat.le_of_ble_eq_true rfl) ?_
            have hP9 : va_P G vwCl [(h, .inr (0, [.ref a1, .ref a2, .ref a3, .int cn])), (a1, .inl (cI, 32, .inl qs)), (a2, .inl (cI, 33, .inl ts)), (a3, .inl (cI, 33, .inl bs)), (q57, .inr (1, [.int q57_0, .int q57_1]))] _ := hP.sub [0, 1, 2, 3, 5] rfl
            have hD9 : va_D A [(h, .inr (0, [.ref a1, .ref a2, .ref a3, .int cn])), (a1, .inl (cI, 32, .inl qs)), (a2, .inl (cI, 33, .inl ts)), (a3, .inl (cI, 33, .inl bs)), (q57, .inr (1, [.int q57_0, .int q57_1]))] := hD.sub [0, 1, 2, 3, 5] (by decide) rfl
            rw [hQf]
            exact W.aret hx hb hr (Or.inl ⟨_, rfl⟩) (Or.inr ⟨_, rfl⟩) (fun t ht hW => ⟨⟨(), _, rfl, trivial, by rw [ht]; exact hP9, hD9⟩, hS.F ht⟩) hS.2.2 dX0_nearWithin_165
          · have hf := it_f c155 hf
            refine lv_aload hx hb dX0_nearWithin_158 (lv_at hl 1 rfl) ?_
            refine lv_goto (tgt := 165) hx hb dX0_nearWithin_160 (by decide) ?_
            refine qf_s (Qf := Qf) hf ?_
            refine W.widen (k := 2) (n := 4) (Nat.le_of_ble_eq_true rfl) (Nat.le_of_ble_eq_true rfl) ?_
            have hP9 : va_P G vwCl [(h, .inr (0, [.ref a1, .ref a2, .ref a3, .int cn])), (a1, .inl (cI, 32, .inl qs)), (a2, .inl (cI, 33, .inl ts)), (a3, .inl (cI, 33, .inl bs)), (q57, .inr (1, [.int q57_0, .int q57_1]))] _ := hP.sub [0, 1, 2, 3, 5] rfl
            have hD9 : va_D A [(h, .inr (0, [.ref a1, .ref a2, .ref a3, .int cn])), (a1, .inl (cI, 32, .inl qs)), (a2, .inl (cI, 33, .inl ts)), (a3, .inl (cI, 33, .inl bs)), (q57, .inr (1, [.int q57_0, .int q57_1]))] := hD.sub [0, 1, 2, 3, 5] (by decide) rfl
            rw [hQf]
            exact W.aret hx hb hr (Or.inl ⟨_, rfl⟩) (Or.inr ⟨_, rfl⟩) (fun t ht hW => ⟨⟨(), _, rfl, trivial, by rw [ht]; exact hP9, hD9⟩, hS.F ht⟩) hS.2.2 dX0_nearWithin_165
    · have hf := it_f c116 hf
      refine lv_aload hx hb dX0_nearWithin_119 (lv_at hl 3 rfl) ?_
      refine lv_goto (tgt := 126) hx hb dX0_nearWithin_121 (by decide) ?_
      refine lv_astore (lv' := [(8, .ref q6), (7, .int y0), (0, .ref h), (2, .int x2), (4, .ref q6), (6, .ref q57)]) hx hb dX0_nearWithin_126 hl (by decide) rfl (fun ls hl => ?_)
      refine lv_iload hx hb dX0_nearWithin_128 (lv_at hl 1 rfl) ?_
      refine lv_if_eq (tgt := 138) hx hb dX0_nearWithin_130 (by decide) (fun c130 => ?_) (fun c130 => ?_)
      · have hf := it_t c130 hf
        refine lv_aload hx hb dX0_nearWithin_138 (lv_at hl 4 rfl) ?_
        refine lv_astore (lv' := [(9, .ref q6), (8, .ref q6), (7, .int y0), (0, .ref h), (2, .int x2), (4, .ref q6), (6, .ref q57)]) hx hb dX0_nearWithin_140 hl (by decide) rfl (fun ls hl => ?_)
        refine lv_iload_n hx hb dX0_nearWithin_142 rfl (lv_at hl 4 rfl) ?_
        refine lv_iconst (v := 2) hx hb dX0_nearWithin_143 (by decide) ?_
        refine lv_icmp_ne (tgt := 166) hx hb dX0_nearWithin_144 (by decide) (fun c144 => ?_) (fun c144 => ?_)
        · have hf := it_f c144 hf
          refine lv_iload_n hx hb dX0_nearWithin_166 rfl (lv_at hl 4 rfl) ?_
          refine lv_if_ne (tgt := 175) hx hb dX0_nearWithin_167 (by decide) (fun c167 => ?_) (fun c167 => ?_)
          · have hf := it_f c167 hf
            refine lv_aload hx hb dX0_nearWithin_175 (lv_at hl 0 rfl) ?_
            refine qf_s (Qf := Qf) hf ?_
            refine W.widen (k := 2) (n := 4) (Nat.le_of_ble_eq_true rfl) (Nat.le_of_ble_eq_true rfl) ?_
            have hP9 : va_P G vwCl [(h, .inr (0, [.ref a1, .ref a2, .ref a3, .int cn])), (a1, .inl (cI, 32, .inl qs)), (a2, .inl (cI, 33, .inl ts)), (a3, .inl (cI, 33, .inl bs)), (q6, .inr (1, [.int q6_0, .int q6_1]))] _ := hP.sub [0, 1, 2, 3, 4] rfl
            have hD9 : va_D A [(h, .inr (0, [.ref a1, .ref a2, .ref a3, .int cn])), (a1, .inl (cI, 32, .inl qs)), (a2, .inl (cI, 33, .inl ts)), (a3, .inl (cI, 33, .inl bs)), (q6, .inr (1, [.int q6_0, .int q6_1]))] := hD.sub [0, 1, 2, 3, 4] (by decide) rfl
            rw [hQf]
            exact W.aret hx hb hr (Or.inl ⟨_, rfl⟩) (Or.inr ⟨_, rfl⟩) (fun t ht hW => ⟨⟨(), _, rfl, trivial, by rw [ht]; exact hP9, hD9⟩, hS.F ht⟩) hS.2.2 dX0_nearWithin_177
          · have hf := it_t c167 hf
            refine lv_aload hx hb dX0_nearWithin_170 (lv_at hl 1 rfl) ?_
            refine lv_goto (tgt := 177) hx hb dX0_nearWithin_172 (by decide) ?_
            refine qf_s (Qf := Qf) hf ?_
            refine W.widen (k := 2) (n := 4) (Nat.le_of_ble_eq_true rfl) (Nat.le_of_ble_eq_true rfl) ?_
            have hP9 : va_P G vwCl [(h, .inr (0, [.ref a1, .ref a2, .ref a3, .int cn])), (a1, .inl (cI, 32, .inl qs)), (a2, .inl (cI, 33, .inl ts)), (a3, .inl (cI, 33, .inl bs)), (q6, .inr (1, [.int q6_0, .int q6_1]))] _ := hP.sub [0, 1, 2, 3, 4] rfl
            have hD9 : va_D A [(h, .inr (0, [.ref a1, .ref a2, .ref a3, .int cn])), (a1, .inl (cI, 32, .inl qs)), (a2, .inl (cI, 33, .inl ts)), (a3, .inl (cI, 33, .inl bs)), (q6, .inr (1, [.int q6_0, .int q6_1]))] := hD.sub [0, 1, 2, 3, 4] (by decide) rfl
            rw [hQf]
            exact W.aret hx hb hr (Or.inl ⟨_, rfl⟩) (Or.inr ⟨_, rfl⟩) (fun t ht hW => ⟨⟨(), _, rfl, trivial, by rw [ht]; exact hP9, hD9⟩, hS.F ht⟩) hS.2.2 dX0_nearWithin_177
        · have hf := it_t c144 hf
          refine lv_aload_n hx hb dX0_nearWithin_147 rfl (lv_at hl 3 rfl) ?_
          refine lv_aload hx hb dX0_nearWithin_148 (lv_at hl 1 rfl) ?_
          refine lv_aload hx hb dX0_nearWithin_150 (lv_at hl 0 rfl) ?_
          obtain ⟨r152, hv152, hf⟩ := bd1_s hf
          refine roVi (As := [.ref q6, .ref q6]) (rest := []) ⟨hx, hb, hml, hown, hts⟩ (zX0_isLowerNearer l G cI _ h a1 a2 a3 q6 q6 qs ts bs cn q6_0 q6_1 q6_0 q6_1  hv152) (cwV 2 hts gX0_nearWithin_X0_isLowerNearer rfl rfl rfl (by decide +kernel) ⟨Nat.le_of_ble_eq_true rfl, Nat.le_of_ble_eq_true rfl⟩) hK hP (hP.sub [0, 1, 2, 3, 4, 4] rfl) rfl rfl rfl hl.1 rfl (Nat.le_of_ble_eq_true rfl) dX0_nearWithin_152 ⟨Nat.le_of_ble_eq_true rfl, Nat.le_of_ble_eq_true rfl⟩ hS hA (fun H locs hP hz152 hS => ?_)
          refine lv_if_eq (tgt := 163) hx hb dX0_nearWithin_155 (by decide) (fun c155 => ?_) (fun c155 => ?_)
          · have hf := it_t c155 hf
            refine lv_aload hx hb dX0_nearWithin_163 (lv_at hl 0 rfl) ?_
            refine qf_s (Qf := Qf) hf ?_
            refine W.widen (k := 2) (n := 4) (Nat.le_of_ble_eq_true rfl) (Nat.le_of_ble_eq_true rfl) ?_
            have hP9 : va_P G vwCl [(h, .inr (0, [.ref a1, .ref a2, .ref a3, .int cn])), (a1, .inl (cI, 32, .inl qs)), (a2, .inl (cI, 33, .inl ts)), (a3, .inl (cI, 33, .inl bs)), (q6, .inr (1, [.int q6_0, .int q6_1]))] _ := hP.sub [0, 1, 2, 3, 4] rfl
            have hD9 : va_D A [(h, .inr (0, [.ref a1, .ref a2, .ref a3, .int cn])), (a1, .inl (cI, 32, .inl qs)), (a2, .inl (cI, 33, .inl ts)), (a3, .inl (cI, 33, .inl bs)), (q6, .inr (1, [.int q6_0, .int q6_1]))] := hD.sub [0, 1, 2, 3, 4] (by decide) rfl
            rw [hQf]
            exact W.aret hx hb hr (Or.inl ⟨_, rfl⟩) (Or.inr ⟨_, rfl⟩) (fun t ht hW => ⟨⟨(), _, rfl, trivial, by rw [ht]; exact hP9, hD9⟩, hS.F ht⟩) hS.2.2 dX0_nearWithin_165
          · have hf := it_f c155 hf
            refine lv_aload hx hb dX0_nearWithin_158 (lv_at hl 1 rfl) ?_
            refine lv_goto (tgt := 165) hx hb dX0_nearWithin_160 (by decide) ?_
            refine qf_s (Qf := Qf) hf ?_
            refine W.widen (k := 2) (n := 4) (Nat.le_of_ble_eq_true rfl) (Nat.le_of_ble_eq_true rfl) ?_
            have hP9 : va_P G vwCl [(h, .inr (0, [.ref a1, .ref a2, .ref a3, .int cn])), (a1, .inl (cI, 32, .inl qs)), (a2, .inl (cI, 33, .inl ts)), (a3, .inl (cI, 33, .inl bs)), (q6, .inr (1, [.int q6_0, .int q6_1]))] _ := hP.sub [0, 1, 2, 3, 4] rfl
            have hD9 : va_D A [(h, .inr (0, [.ref a1, .ref a2, .ref a3, .int cn])), (a1, .inl (cI, 32, .inl qs)), (a2, .inl (cI, 33, .inl ts)), (a3, .inl (cI, 33, .inl bs)), (q6, .inr (1, [.int q6_0, .int q6_1]))] := hD.sub [0, 1, 2, 3, 4] (by decide) rfl
            rw [hQf]
            exact W.aret hx hb hr (Or.inl ⟨_, rfl⟩) (Or.inr ⟨_, rfl⟩) (fun t ht hW => ⟨⟨(), _, rfl, trivial, by rw [ht]; exact hP9, hD9⟩, hS.F ht⟩) hS.2.2 dX0_nearWithin_165
      · have hf := it_f c130 hf
        refine lv_aload hx hb dX0_nearWithin_133 (lv_at hl 5 rfl) ?_
        refine lv_goto (tgt := 140) hx hb dX0_nearWithin_135 (by decide) ?_
        refine lv_astore (lv' := [(9, .ref q57), (8, .ref q6), (7, .int y0), (0, .ref h), (2, .int x2), (4, .ref q6), (6, .ref q57)]) hx hb dX0_nearWithin_140 hl (by decide) rfl (fun ls hl => ?_)
        refine lv_iload_n hx hb dX0_nearWithin_142 rfl (lv_at hl 4 rfl) ?_
        refine lv_iconst (v := 2) hx hb dX0_nearWithin_143 (by decide) ?_
        refine lv_icmp_ne (tgt := 166) hx hb dX0_nearWithin_144 (by decide) (fun c144 => ?_) (fun c144 => ?_)
        · have hf := it_f c144 hf
          refine lv_iload_n hx hb dX0_nearWithin_166 rfl (lv_at hl 4 rfl) ?_
          refine lv_if_ne (tgt := 175) hx hb dX0_nearWithin_167 (by decide) (fun c167 => ?_) (fun c167 => ?_)
          · have hf := it_f c167 hf
            refine lv_aload hx hb dX0_nearWithin_175 (lv_at hl 0 rfl) ?_
            refine qf_s (Qf := Qf) hf ?_
            refine W.widen (k := 2) (n := 4) (Nat.le_of_ble_eq_true rfl) (Nat.le_of_ble_eq_true rfl) ?_
            have hP9 : va_P G vwCl [(h, .inr (0, [.ref a1, .ref a2, .ref a3, .int cn])), (a1, .inl (cI, 32, .inl qs)), (a2, .inl (cI, 33, .inl ts)), (a3, .inl (cI, 33, .inl bs)), (q57, .inr (1, [.int q57_0, .int q57_1]))] _ := hP.sub [0, 1, 2, 3, 5] rfl
            have hD9 : va_D A [(h, .inr (0, [.ref a1, .ref a2, .ref a3, .int cn])), (a1, .inl (cI, 32, .inl qs)), (a2, .inl (cI, 33, .inl ts)), (a3, .inl (cI, 33, .inl bs)), (q57, .inr (1, [.int q57_0, .int q57_1]))] := hD.sub [0, 1, 2, 3, 5] (by decide) rfl
            rw [hQf]
            exact W.aret hx hb hr (Or.inl ⟨_, rfl⟩) (Or.inr ⟨_, rfl⟩) (fun t ht hW => ⟨⟨(), _, rfl, trivial, by rw [ht]; exact hP9, hD9⟩, hS.F ht⟩) hS.2.2 dX0_nearWithin_177
          · have hf := it_t c167 hf
            refine lv_aload hx hb dX0_nearWithin_170 (lv_at hl 1 rfl) ?_
            refine lv_goto (tgt := 177) hx hb dX0_nearWithin_172 (by decide) ?_
            refine qf_s (Qf := Qf) hf ?_
            refine W.widen (k := 2) (n := 4) (Nat.le_of_ble_eq_true rfl) (Nat.le_of_ble_eq_true rfl) ?_
            have hP9 : va_P G vwCl [(h, .inr (0, [.ref a1, .ref a2, .ref a3, .int cn])), (a1, .inl (cI, 32, .inl qs)), (a2, .inl (cI, 33, .inl ts)), (a3, .inl (cI, 33, .inl bs)), (q6, .inr (1, [.int q6_0, .int q6_1]))] _ := hP.sub [0, 1, 2, 3, 4] rfl
            have hD9 : va_D A [(h, .inr (0, [.ref a1, .ref a2, .ref a3, .int cn])), (a1, .inl (cI, 32, .inl qs)), (a2, .inl (cI, 33, .inl ts)), (a3, .inl (cI, 33, .inl bs)), (q6, .inr (1, [.int q6_0, .int q6_1]))] := hD.sub [0, 1, 2, 3, 4] (by decide) rfl
            rw [hQf]
            exact W.aret hx hb hr (Or.inl ⟨_, rfl⟩) (Or.inr ⟨_, rfl⟩) (fun t ht hW => ⟨⟨(), _, rfl, trivial, by rw [ht]; exact hP9, hD9⟩, hS.F ht⟩) hS.2.2 dX0_nearWithin_177
        · have hf := it_t c144 hf
          refine lv_aload_n hx hb dX0_nearWithin_147 rfl (lv_at hl 3 rfl) ?_
          refine lv_aload hx hb dX0_nearWithin_148 (lv_at hl 1 rfl) ?_
          refine lv_aload hx hb dX0_nearWithin_150 (lv_at hl 0 rfl) ?_
          obtain ⟨r152, hv152, hf⟩ := bd1_s hf
          refine roVi (As := [.ref q6, .ref q57]) (rest := []) ⟨hx, hb, hml, hown, hts⟩ (zX0_isLowerNearer l G cI _ h a1 a2 a3 q6 q57 qs ts bs cn q6_0 q6_1 q57_0 q57_1  hv152) (cwV 2 hts gX0_nearWithin_X0_isLowerNearer rfl rfl rfl (by decide +kernel) ⟨Nat.le_of_ble_eq_true rfl, Nat.le_of_ble_eq_true rfl⟩) hK hP (hP.sub [0, 1, 2, 3, 4, 5] rfl) rfl rfl rfl hl.1 rfl (Nat.le_of_ble_eq_true rfl) dX0_nearWithin_152 ⟨Nat.le_of_ble_eq_true rfl, Nat.le_of_ble_eq_true rfl⟩ hS hA (fun H locs hP hz152 hS => ?_)
          refine lv_if_eq (tgt := 163) hx hb dX0_nearWithin_155 (by decide) (fun c155 => ?_) (fun c155 => ?_)
          · have hf := it_t c155 hf
            refine lv_aload hx hb dX0_nearWithin_163 (lv_at hl 0 rfl) ?_
            refine qf_s (Qf := Qf) hf ?_
            refine W.widen (k := 2) (n := 4) (Nat.le_of_ble_eq_true rfl) (Nat.le_of_ble_eq_true rfl) ?_
            have hP9 : va_P G vwCl [(h, .inr (0, [.ref a1, .ref a2, .ref a3, .int cn])), (a1, .inl (cI, 32, .inl qs)), (a2, .inl (cI, 33, .inl ts)), (a3, .inl (cI, 33, .inl bs)), (q57, .inr (1, [.int q57_0, .int q57_1]))] _ := hP.sub [0, 1, 2, 3, 5] rfl
            have hD9 : va_D A [(h, .inr (0, [.ref a1, .ref a2, .ref a3, .int cn])), (a1, .inl (cI, 32, .inl qs)), (a2, .inl (cI, 33, .inl ts)), (a3, .inl (cI, 33, .inl bs)), (q57, .inr (1, [.int q57_0, .int q57_1]))] := hD.sub [0, 1, 2, 3, 5] (by decide) rfl
            rw [hQf]
            exact W.aret hx hb hr (Or.inl ⟨_, rfl⟩) (Or.inr ⟨_, rfl⟩) (fun t ht hW => ⟨⟨(), _, rfl, trivial, by rw [ht]; exact hP9, hD9⟩, hS.F ht⟩) hS.2.2 dX0_nearWithin_165
          · have hf := it_f c155 hf
            refine lv_aload hx hb dX0_nearWithin_158 (lv_at hl 1 rfl) ?_
            refine lv_goto (tgt := 165) hx hb dX0_nearWithin_160 (by decide) ?_
            refine qf_s (Qf := Qf) hf ?_
            refine W.widen (k := 2) (n := 4) (Nat.le_of_ble_eq_true rfl) (Nat.le_of_ble_eq_true rfl) ?_
            have hP9 : va_P G vwCl [(h, .inr (0, [.ref a1, .ref a2, .ref a3, .int cn])), (a1, .inl (cI, 32, .inl qs)), (a2, .inl (cI, 33, .inl ts)), (a3, .inl (cI, 33, .inl bs)), (q6, .inr (1, [.int q6_0, .int q6_1]))] _ := hP.sub [0, 1, 2, 3, 4] rfl
            have hD9 : va_D A [(h, .inr (0, [.ref a1, .ref a2, .ref a3, .int cn])), (a1, .inl (cI, 32, .inl qs)), (a2, .inl (cI, 33, .inl ts)), (a3, .inl (cI, 33, .inl bs)), (q6, .inr (1, [.int q6_0, .int q6_1]))] := hD.sub [0, 1, 2, 3, 4] (by decide) rfl
            rw [hQf]
            exact W.aret hx hb hr (Or.inl ⟨_, rfl⟩) (Or.inr ⟨_, rfl⟩) (fun t ht hW => ⟨⟨(), _, rfl, trivial, by rw [ht]; exact hP9, hD9⟩, hS.F ht⟩) hS.2.2 dX0_nearWithin_165
  have J55 : ∀ (q6 : Nat) (x2 : Int32) (x3 : Int32) (y0 : Int32) (q6_0 : Int32) (q6_1 : Int32) (H : Heap) (locs : List Loc) (ls : Array Slot), fX0_nearWithin_J55  ts bs cn x2 x3 y0 q6_0 q6_1 = some (rv1, rv2) → va_P G vwCl [(h, .inr (0, [.ref a1, .ref a2, .ref a3, .int cn])), (a1, .inl (cI, 32, .inl qs)), (a2, .inl (cI, 33, .inl ts)), (a3, .inl (cI, 33, .inl bs)), (q6, .inr (1, [.int q6_0, .int q6_1]))] H → va_D A [(h, .inr (0, [.ref a1, .ref a2, .ref a3, .int cn])), (a1, .inl (cI, 32, .inl qs)), (a2, .inl (cI, 33, .inl ts)), (a3, .inl (cI, 33, .inl bs)), (q6, .inr (1, [.int q6_0, .int q6_1]))] → va_S A s.heap H locs → lv_has ls 10 [(0, .ref h), (2, .int x2), (3, .int x3), (4, .ref q6)] → W p l e (headSpec wsX0_nearWithin ({ frames := 2, cells := 2, slots := 4, locals := 46 })).room s m ([.ref h, .int p1, .int p2].toArray) below meth c H locs 1 2 (Qf (rv1, rv2)) (F0 m 55 ls [.int y0]) := by
    intro  q6 x2 x3 y0 q6_0 q6_1 H locs ls hf hP hD hS hl
    unfold fX0_nearWithin_J55 at hf
    refine lv_istore (lv' := [(5, .int y0), (0, .ref h), (2, .int x2), (3, .int x3), (4, .ref q6)]) hx hb dX0_nearWithin_55 hl (by decide) rfl (fun ls hl => ?_)
    refine va_new (ci := 1) (fs := [.int 0, .int 0]) (C := RX1) (T := TX1) (N := 2) hx hb hts hinX1 tyX1 tyX1_ok hown w1 w2 w3 hK.1 hP hD hS hA rfl (fun j hj => by rcases (show j = 0 ∨ j = 1 by omega) with rfl | rfl <;> rfl) (Nat.le_of_ble_eq_true rfl) (Nat.le_of_ble_eq_true rfl) dX0_nearWithin_57 (fun q57 H hP hD hS => ?_)
    have hP : va_P G vwCl [(h, .inr (0, [.ref a1, .ref a2, .ref a3, .int cn])), (a1, .inl (cI, 32, .inl qs)), (a2, .inl (cI, 33, .inl ts)), (a3, .inl (cI, 33, .inl bs)), (q6, .inr (1, [.int q6_0, .int q6_1])), (q57, .inr (1, [.int 0, .int 0]))] H := hP
    have hD : va_D A [(h, .inr (0, [.ref a1, .ref a2, .ref a3, .int cn])), (a1, .inl (cI, 32, .inl qs)), (a2, .inl (cI, 33, .inl ts)), (a3, .inl (cI, 33, .inl bs)), (q6, .inr (1, [.int q6_0, .int q6_1])), (q57, .inr (1, [.int 0, .int 0]))] := hD
    refine lv_dup hx hb dX0_nearWithin_60 rfl ?_
    refine lv_aload_n hx hb dX0_nearWithin_61 rfl (lv_at hl 1 rfl) ?_
    refine va_get (D := G) (ci := 0) (v := .ref a2) (C := RX0) (T := TX0) (N := 4) hx hb hts hinX0 hown hK.1 hP 0 rfl rfl 1 (by decide) w4 (fun _ h9 => h9) rfl dX0_nearWithin_62 ?_
    refine lv_iload_n hx hb dX0_nearWithin_65 rfl (lv_at hl 3 rfl) ?_
    refine lv_iconst (v := 1) hx hb dX0_nearWithin_66 (by decide) ?_
    refine lv_isub hx hb dX0_nearWithin_67 ?_
    obtain ⟨hi68, hf⟩ := ckI_s hf
    refine va_iald hx hb hK.1 hP 2 0 rfl rfl hi68 dX0_nearWithin_68 ?_
    refine lv_iload hx hb dX0_nearWithin_69 (lv_at hl 0 rfl) ?_
    refine lv_aload hx hb dX0_nearWithin_71 (lv_at hl 4 rfl) ?_
    refine va_get (D := G) (ci := 1) (v := .int q6_0) (C := RX1) (T := TX1) (N := 2) hx hb hts hinX1 hown hK.1 hP 4 rfl rfl 0 (by decide) w10 (fun _ h9 => h9) rfl dX0_nearWithin_73 ?_
    refine lv_imul hx hb dX0_nearWithin_76 ?_
    refine lv_iadd hx hb dX0_nearWithin_77 ?_
    refine lv_aload_n hx hb dX0_nearWithin_78 rfl (lv_at hl 1 rfl) ?_
    refine va_get (D := G) (ci := 0) (v := .ref a3) (C := RX0) (T := TX0) (N := 4) hx hb hts hinX0 hown hK.1 hP 0 rfl rfl 2 (by decide) w6 (fun _ h9 => h9) rfl dX0_nearWithin_79 ?_
    refine lv_iload_n hx hb dX0_nearWithin_82 rfl (lv_at hl 3 rfl) ?_
    refine lv_iconst (v := 1) hx hb dX0_nearWithin_83 (by decide) ?_
    refine lv_isub hx hb dX0_nearWithin_84 ?_
    obtain ⟨hi85, hf⟩ := ckI_s hf
    refine va_iald hx hb hK.1 hP 3 0 rfl rfl hi85 dX0_nearWithin_85 ?_
    refine lv_iload hx hb dX0_nearWithin_86 (lv_at hl 0 rfl) ?_
    refine lv_aload hx hb dX0_nearWithin_88 (lv_at hl 4 rfl) ?_
    refine va_get (D := G) (ci := 1) (v := .int q6_1) (C := RX1) (T := TX1) (N := 2) hx hb hts hinX1 hown hK.1 hP 4 rfl rfl 1 (by decide) w9 (fun _ h9 => h9) rfl dX0_nearWithin_90 ?_
    refine lv_imul hx hb dX0_nearWithin_93 ?_
    refine lv_iadd hx hb dX0_nearWithin_94 ?_
    obtain ⟨ft_95, fb_95, hv95, hf⟩ := bd2_s hf
    refine mcIv (As := [.int ((ts (Int32.toNatClampNeg (x3 - 1))) + (y0 * q6_0)), .int ((bs (Int32.toNatClampNeg (x3 - 1))) + (y0 * q6_1))]) (rest := [.ref q57]) (wr := [(h, .inr (0, [.ref a1, .ref a2, .ref a3, .int cn])), (a1, .inl (cI, 32, .inl qs)), (a2, .inl (cI, 33, .inl ts)), (a3, .inl (cI, 33, .inl bs)), (q6, .inr (1, [.int q6_0, .int q6_1]))]) (wc := [(q57, .inr (1, [.int 0, .int 0]))]) ⟨hx, hb, hml, hown, hts⟩ (zX1_init l G cI _ q57 0 0 ((ts (Int32.toNatClampNeg (x3 - 1))) + (y0 * q6_0)) ((bs (Int32.toNatClampNeg (x3 - 1))) + (y0 * q6_1)) hv95) (cwI 2 hts gX0_nearWithin_X1_init rfl rfl rfl w3 w7 w8 rfl (by decide +kernel) ⟨Nat.le_of_ble_eq_true rfl, Nat.le_of_ble_eq_true rfl⟩) hK hP hD [5] [0, 1, 2, 3, 4] rfl rfl rfl (by decide) (by decide) (by decide) rfl hl.1 rfl (Nat.le_of_ble_eq_true rfl) dX0_nearWithin_95 ⟨Nat.le_of_ble_eq_true rfl, Nat.le_of_ble_eq_true rfl⟩ hS hA (fun H locs hP hD hz95 hS => ?_)
    have hP : va_P G vwCl [(h, .inr (0, [.ref a1, .ref a2, .ref a3, .int cn])), (a1, .inl (cI, 32, .inl qs)), (a2, .inl (cI, 33, .inl ts)), (a3, .inl (cI, 33, .inl bs)), (q6, .inr (1, [.int q6_0, .int q6_1])), (q57, .inr (1, [.int ft_95, .int fb_95]))] H := hP
    have hD : va_D A [(h, .inr (0, [.ref a1, .ref a2, .ref a3, .int cn])), (a1, .inl (cI, 32, .inl qs)), (a2, .inl (cI, 33, .inl ts)), (a3, .inl (cI, 33, .inl bs)), (q6, .inr (1, [.int q6_0, .int q6_1])), (q57, .inr (1, [.int ft_95, .int fb_95]))] := hD
    refine lv_astore (lv' := [(6, .ref q57), (5, .int y0), (0, .ref h), (2, .int x2), (3, .int x3), (4, .ref q6)]) hx hb dX0_nearWithin_98 hl (by decide) rfl (fun ls hl => ?_)
    refine lv_iload_n hx hb dX0_nearWithin_100 rfl (lv_at hl 4 rfl) ?_
    refine lv_iconst (v := 2) hx hb dX0_nearWithin_101 (by decide) ?_
    obtain ⟨hz102, hf⟩ := ckZ_s hf
    refine lv_irem hx hb dX0_nearWithin_102 hz102 ?_
    refine lv_iconst (v := 1) hx hb dX0_nearWithin_103 (by decide) ?_
    refine lv_icmp_ne (tgt := 111) hx hb dX0_nearWithin_104 (by decide) (fun c104 => ?_) (fun c104 => ?_)
    · have hf := it_f c104 hf
      refine lv_iconst (v := 0) hx hb dX0_nearWithin_111 (by decide) ?_
      exact J112  q6 q57 x2 0 q6_0 q6_1 ft_95 fb_95 _ _ _ hf hP hD hS (lv_sub hl [2, 3, 5, 0] rfl)
    · have hf := it_t c104 hf
      refine lv_iconst (v := 1) hx hb dX0_nearWithin_107 (by decide) ?_
      refine lv_goto (tgt := 112) hx hb dX0_nearWithin_108 (by decide) ?_
      exact J112  q6 q57 x2 1 q6_0 q6_1 ft_95 fb_95 _ _ _ hf hP hD hS (lv_sub hl [2, 3, 5, 0] rfl)
  have hl := lv_entry ([.ref h, .int p1, .int p2]) (n := 10) (Nat.le_of_ble_eq_true rfl)
  rw [lg_entry_eq]
  generalize (lg_sl ([.ref h, .int p1, .int p2]) ++ List.replicate (10 - (lg_sl ([.ref h, .int p1, .int p2])).length) Slot.unset).toArray = ls at hl ⊢
  have hl : lv_has ls 10 [(0, .ref h), (1, .int p1), (2, .int p2)] := hl
  unfold fX0_nearWithin at hf
  refine lv_aload_n hx hb dX0_nearWithin_0 rfl (lv_at hl 0 rfl) ?_
  refine lv_iload_n hx hb dX0_nearWithin_1 rfl (lv_at hl 1 rfl) ?_
  obtain ⟨r2, hv2, hf⟩ := bd1_s hf
  refine roVi (As := [.int p1]) (rest := []) ⟨hx, hb, hml, hown, hts⟩ (zX0_lastWithin l G cI _ h a1 a2 a3 qs ts bs cn p1 hv2) (cwV 1 hts gX0_nearWithin_X0_lastWithin rfl rfl rfl (by decide +kernel) ⟨Nat.le_of_ble_eq_true rfl, Nat.le_of_ble_eq_true rfl⟩) hK hP (hP.sub [0, 1, 2, 3] rfl) rfl rfl rfl hl.1 rfl (Nat.le_of_ble_eq_true rfl) dX0_nearWithin_2 ⟨Nat.le_of_ble_eq_true rfl, Nat.le_of_ble_eq_true rfl⟩ hS hA (fun H locs hP hz2 hS => ?_)
  refine lv_istore_n (lv' := [(3, .int r2), (0, .ref h), (1, .int p1), (2, .int p2)]) hx hb dX0_nearWithin_5 rfl hl (by decide) rfl (fun ls hl => ?_)
  refine va_new (ci := 1) (fs := [.int 0, .int 0]) (C := RX1) (T := TX1) (N := 2) hx hb hts hinX1 tyX1 tyX1_ok hown w1 w2 w3 hK.1 hP hD hS hA rfl (fun j hj => by rcases (show j = 0 ∨ j = 1 by omega) with rfl | rfl <;> rfl) (Nat.le_of_ble_eq_true rfl) (Nat.le_of_ble_eq_true rfl) dX0_nearWithin_6 (fun q6 H hP hD hS => ?_)
  have hP : va_P G vwCl [(h, .inr (0, [.ref a1, .ref a2, .ref a3, .int cn])), (a1, .inl (cI, 32, .inl qs)), (a2, .inl (cI, 33, .inl ts)), (a3, .inl (cI, 33, .inl bs)), (q6, .inr (1, [.int 0, .int 0]))] H := hP
  have hD : va_D A [(h, .inr (0, [.ref a1, .ref a2, .ref a3, .int cn])), (a1, .inl (cI, 32, .inl qs)), (a2, .inl (cI, 33, .inl ts)), (a3, .inl (cI, 33, .inl bs)), (q6, .inr (1, [.int 0, .int 0]))] := hD
  refine lv_dup hx hb dX0_nearWithin_9 rfl ?_
  refine lv_aload_n hx hb dX0_nearWithin_10 rfl (lv_at hl 1 rfl) ?_
  refine va_get (D := G) (ci := 0) (v := .ref a2) (C := RX0) (T := TX0) (N := 4) hx hb hts hinX0 hown hK.1 hP 0 rfl rfl 1 (by decide) w4 (fun _ h9 => h9) rfl dX0_nearWithin_11 ?_
  refine lv_iload_n hx hb dX0_nearWithin_14 rfl (lv_at hl 0 rfl) ?_
  obtain ⟨hi15, hf⟩ := ckI_s hf
  refine va_iald hx hb hK.1 hP 2 0 rfl rfl hi15 dX0_nearWithin_15 ?_
  refine lv_aload_n hx hb dX0_nearWithin_16 rfl (lv_at hl 1 rfl) ?_
  refine va_get (D := G) (ci := 0) (v := .ref a3) (C := RX0) (T := TX0) (N := 4) hx hb hts hinX0 hown hK.1 hP 0 rfl rfl 2 (by decide) w6 (fun _ h9 => h9) rfl dX0_nearWithin_17 ?_
  refine lv_iload_n hx hb dX0_nearWithin_20 rfl (lv_at hl 0 rfl) ?_
  obtain ⟨hi21, hf⟩ := ckI_s hf
  refine va_iald hx hb hK.1 hP 3 0 rfl rfl hi21 dX0_nearWithin_21 ?_
  obtain ⟨ft_22, fb_22, hv22, hf⟩ := bd2_s hf
  refine mcIv (As := [.int (ts (Int32.toNatClampNeg r2)), .int (bs (Int32.toNatClampNeg r2))]) (rest := [.ref q6]) (wr := [(h, .inr (0, [.ref a1, .ref a2, .ref a3, .int cn])), (a1, .inl (cI, 32, .inl qs)), (a2, .inl (cI, 33, .inl ts)), (a3, .inl (cI, 33, .inl bs))]) (wc := [(q6, .inr (1, [.int 0, .int 0]))]) ⟨hx, hb, hml, hown, hts⟩ (zX1_init l G cI _ q6 0 0 (ts (Int32.toNatClampNeg r2)) (bs (Int32.toNatClampNeg r2)) hv22) (cwI 2 hts gX0_nearWithin_X1_init rfl rfl rfl w3 w7 w8 rfl (by decide +kernel) ⟨Nat.le_of_ble_eq_true rfl, Nat.le_of_ble_eq_true rfl⟩) hK hP hD [4] [0, 1, 2, 3] rfl rfl rfl (by decide) (by decide) (by decide) rfl hl.1 rfl (Nat.le_of_ble_eq_true rfl) dX0_nearWithin_22 ⟨Nat.le_of_ble_eq_true rfl, Nat.le_of_ble_eq_true rfl⟩ hS hA (fun H locs hP hD hz22 hS => ?_)
  have hP : va_P G vwCl [(h, .inr (0, [.ref a1, .ref a2, .ref a3, .int cn])), (a1, .inl (cI, 32, .inl qs)), (a2, .inl (cI, 33, .inl ts)), (a3, .inl (cI, 33, .inl bs)), (q6, .inr (1, [.int ft_22, .int fb_22]))] H := hP
  have hD : va_D A [(h, .inr (0, [.ref a1, .ref a2, .ref a3, .int cn])), (a1, .inl (cI, 32, .inl qs)), (a2, .inl (cI, 33, .inl ts)), (a3, .inl (cI, 33, .inl bs)), (q6, .inr (1, [.int ft_22, .int fb_22]))] := hD
  refine lv_astore (lv' := [(4, .ref q6), (3, .int r2), (0, .ref h), (1, .int p1), (2, .int p2)]) hx hb dX0_nearWithin_25 hl (by decide) rfl (fun ls hl => ?_)
  refine lv_aload hx hb dX0_nearWithin_27 (lv_at hl 0 rfl) ?_
  refine va_get (D := G) (ci := 1) (v := .int fb_22) (C := RX1) (T := TX1) (N := 2) hx hb hts hinX1 hown hK.1 hP 4 rfl rfl 1 (by decide) w9 (fun _ h9 => h9) rfl dX0_nearWithin_29 ?_
  refine lv_if_le (tgt := 54) hx hb dX0_nearWithin_32 (by decide) (fun c32 => ?_) (fun c32 => ?_)
  · have hf := it_t c32 hf
    refine lv_iconst (v := 0) hx hb dX0_nearWithin_54 (by decide) ?_
    exact J55  q6 p2 r2 0 ft_22 fb_22 _ _ _ hf hP hD hS (lv_sub hl [2, 4, 1, 0] rfl)
  · have hf := it_f c32 hf
    refine lv_iload_n hx hb dX0_nearWithin_35 rfl (lv_at hl 3 rfl) ?_
    refine lv_aload_n hx hb dX0_nearWithin_36 rfl (lv_at hl 2 rfl) ?_
    refine va_get (D := G) (ci := 0) (v := .ref a3) (C := RX0) (T := TX0) (N := 4) hx hb hts hinX0 hown hK.1 hP 0 rfl rfl 2 (by decide) w6 (fun _ h9 => h9) rfl dX0_nearWithin_37 ?_
    refine lv_iload_n hx hb dX0_nearWithin_40 rfl (lv_at hl 1 rfl) ?_
    refine lv_iconst (v := 1) hx hb dX0_nearWithin_41 (by decide) ?_
    refine lv_isub hx hb dX0_nearWithin_42 ?_
    obtain ⟨hi43, hf⟩ := ckI_s hf
    refine va_iald hx hb hK.1 hP 3 0 rfl rfl hi43 dX0_nearWithin_43 ?_
    refine lv_isub hx hb dX0_nearWithin_44 ?_
    refine lv_aload hx hb dX0_nearWithin_45 (lv_at hl 0 rfl) ?_
    refine va_get (D := G) (ci := 1) (v := .int fb_22) (C := RX1) (T := TX1) (N := 2) hx hb hts hinX1 hown hK.1 hP 4 rfl rfl 1 (by decide) w9 (fun _ h9 => h9) rfl dX0_nearWithin_47 ?_
    obtain ⟨hz50, hf⟩ := ckZ_s hf
    refine lv_idiv hx hb dX0_nearWithin_50 hz50 ?_
    refine lv_goto (tgt := 55) hx hb dX0_nearWithin_51 (by decide) ?_
    exact J55  q6 p2 r2 ((p1 - (bs (Int32.toNatClampNeg (r2 - 1)))) / fb_22) ft_22 fb_22 _ _ _ hf hP hD hS (lv_sub hl [2, 4, 1, 0] rfl)

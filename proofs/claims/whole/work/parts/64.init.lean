def fX0_init : Option ((Nat → Int32) × (Nat → Int32) × (Nat → Int32) × Int32) :=
  nm (fun _ => (0 : Int32)) fun (qs7 : Nat → Int32) =>
  nm (fun _ => (0 : Int32)) fun (ts15 : Nat → Int32) =>
  nm (fun _ => (0 : Int32)) fun (bs23 : Nat → Int32) =>
  some (qs7, ts15, bs23, 0)
set_option maxHeartbeats 4000000 in
set_option maxRecDepth 100000 in
theorem zX0_init (l : Launch) (G : va_G) (cI : ClassId) (sz : Nat) (h : Nat) {o_qs : Nat → Int32} {o_ts : Nat → Int32} {o_bs : Nat → Int32} {o_cn : Int32} (hf : fX0_init  = some (o_qs, o_ts, o_bs, o_cn)) : mJv (S := Nat × Nat × Nat) l yX0_init wsX0_init ({ frames := 1, cells := 3, slots := 98, locals := 12 }) [.ref h] G cI [(h, .inr (0, [.null, .null, .null, .int 0]))] sz (fun u => [(h, .inr (0, [.ref u.1, .ref u.2.1, .ref u.2.2, .int o_cn])), (u.1, .inl (cI, 32, .inl o_qs)), (u.2.1, .inl (cI, 33, .inl o_ts)), (u.2.2, .inl (cI, 33, .inl o_bs))]) 3 98 := by
  refine Met.ofW (cc := cX0_init) (maxL := 1) (ret := none) (by decide) rfl ?_
  intro p e s m args below meth c s₁ B hml hv
  obtain ⟨rfl, hsz, hP, hK, hD0⟩ := hv
  have hx := B.exec
  have hb := B.bytes
  have hr := B.returns
  have hts := atoms_spec (ws := wsX0_init) B.pre
  have hown : s.vm.findClass RX0 = some m.cls := findClass_of_methodNamed B.named
  have hlocks := B.notSynchronized
  have hin : meth.name = "<init>" := (name_of_methodNamed B.named B.method).1
  subst hsz
  have hD := hD0.self (sz := s.heap.size)
  generalize hAe : va_A [(h, .inr (0, [.null, .null, .null, .int 0]))] s.heap.size = A at hD ⊢
  have hA : ∀ q : Nat, s.heap.size ≤ q → A q := fun q h => by rw [← hAe]; exact Or.inr h
  have hS : va_S A s.heap s.heap [] := va_S.rf
  have w0 := hts (.methodLink RX0 3 objectInit) (by decide +kernel)
  have w1 := hts (.instanceMethod objectInit) (by decide +kernel)
  have w2 := hts (.code objectInit ⟨#[0xb1]⟩ 1 none) (by decide +kernel)
  have w3 := hts (.arrayClass .int) (by decide +kernel)
  have w4 := hts (.fieldLink RX0 9 "SternDesk$Expansion" "quotients" "[I") (by decide +kernel)
  have hinX0 : ∀ w ∈ u_ws RX0 TX0 4, w ∈ wsX0_init := by decide +kernel
  have w6 := hts (.fieldLink RX0 15 "SternDesk$Expansion" "tops" "[I") (by decide +kernel)
  have w7 := hts (.fieldLink RX0 18 "SternDesk$Expansion" "bottoms" "[I") (by decide +kernel)
  obtain ⟨Qf, hQf⟩ : ∃ f : ((Nat → Int32) × (Nat → Int32) × (Nat → Int32) × Int32) → State → Prop, f = fun z => MQ below (va_Qv (fun (_ : Nat × Nat × Nat) => True) (fun u t => va_P G vwCl [(h, .inr (0, [.ref u.1, .ref u.2.1, .ref u.2.2, .int z.2.2.2])), (u.1, .inl (cI, 32, .inl z.1)), (u.2.1, .inl (cI, 33, .inl z.2.1)), (u.2.2, .inl (cI, 33, .inl z.2.2.1))] t.heap ∧ va_D A [(h, .inr (0, [.ref u.1, .ref u.2.1, .ref u.2.2, .int z.2.2.2])), (u.1, .inl (cI, 32, .inl z.1)), (u.2.1, .inl (cI, 33, .inl z.2.1)), (u.2.2, .inl (cI, 33, .inl z.2.2.1))]) A) ([.ref h].toArray) s 3 98 A := ⟨_, rfl⟩
  suffices hgo : W p l e (headSpec wsX0_init ({ frames := 1, cells := 3, slots := 98, locals := 12 })).room s m ([.ref h].toArray) below meth c s.heap [] 0 0 (Qf (o_qs, o_ts, o_bs, o_cn)) (entryFrame m ([.ref h].toArray) 1) by rw [hQf] at hgo; exact hgo
  have hl := lv_entry ([.ref h]) (n := 1) (Nat.le_of_ble_eq_true rfl)
  rw [lg_entry_eq]
  generalize (lg_sl ([.ref h]) ++ List.replicate (1 - (lg_sl ([.ref h])).length) Slot.unset).toArray = ls at hl ⊢
  have hl : lv_has ls 1 [(0, .ref h)] := hl
  unfold fX0_init at hf
  refine lv_aload_n hx hb dX0_init_0 rfl (lv_at hl 0 rfl) ?_
  refine W.objInit hx hb hown w0 w1 w2 rfl (by rw [hml]; exact hl.1) rfl dX0_init_1 (Nat.le_of_ble_eq_true rfl) (Nat.le_of_ble_eq_true rfl) ?_
  refine W.eq (g2 := F0 m 4 ls []) rfl ?_
  refine lv_aload_n hx hb dX0_init_4 rfl (lv_at hl 0 rfl) ?_
  refine lv_bipush (v := 32) hx hb dX0_init_5 (by decide) ?_
  refine nwI hx hb w3 hK hP hD hS hA (n := 32) (N := 32) (by decide) (by decide) (by decide) (Nat.le_of_ble_eq_true rfl) (Nat.le_of_ble_eq_true rfl) dX0_init_7 (fun a1 H hP hD hS => ?_)
  obtain ⟨qs7, eqs7⟩ : ∃ z : Nat → Int32, z = fun _ => 0 := ⟨_, rfl⟩
  have hf := nm_s eqs7 hf
  rw [← eqs7] at hP hD
  have hP : va_P G vwCl [(h, .inr (0, [.null, .null, .null, .int 0])), (a1, .inl (cI, 32, .inl qs7))] H := hP
  have hD : va_D A [(h, .inr (0, [.null, .null, .null, .int 0])), (a1, .inl (cI, 32, .inl qs7))] := hD
  refine va_putF (D := G) (ci := 0) (v := .ref a1) (ty := (.array .int)) (C := RX0) (T := TX0) (N := 4) hx hb hts hinX0 tyX0 tyX0_ok nmX0 hown hK.1 hP hD hS 0 rfl rfl 0 (by decide) w4 (fun _ h9 => h9) rfl hin rfl (by decide +kernel) rfl rfl (Nat.le_of_ble_eq_true rfl) dX0_init_9 (fun H locs hP hD hS => ?_)
  have hP : va_P G vwCl [(h, .inr (0, [.ref a1, .null, .null, .int 0])), (a1, .inl (cI, 32, .inl qs7))] H := hP
  have hD : va_D A [(h, .inr (0, [.ref a1, .null, .null, .int 0])), (a1, .inl (cI, 32, .inl qs7))] := hD
  refine lv_aload_n hx hb dX0_init_12 rfl (lv_at hl 0 rfl) ?_
  refine lv_bipush (v := 33) hx hb dX0_init_13 (by decide) ?_
  refine nwI hx hb w3 hK hP hD hS hA (n := 33) (N := 33) (by decide) (by decide) (by decide) (Nat.le_of_ble_eq_true rfl) (Nat.le_of_ble_eq_true rfl) dX0_init_15 (fun a2 H hP hD hS => ?_)
  obtain ⟨ts15, ets15⟩ : ∃ z : Nat → Int32, z = fun _ => 0 := ⟨_, rfl⟩
  have hf := nm_s ets15 hf
  rw [← ets15] at hP hD
  have hP : va_P G vwCl [(h, .inr (0, [.ref a1, .null, .null, .int 0])), (a1, .inl (cI, 32, .inl qs7)), (a2, .inl (cI, 33, .inl ts15))] H := hP
  have hD : va_D A [(h, .inr (0, [.ref a1, .null, .null, .int 0])), (a1, .inl (cI, 32, .inl qs7)), (a2, .inl (cI, 33, .inl ts15))] := hD
  refine va_putF (D := G) (ci := 0) (v := .ref a2) (ty := (.array .int)) (C := RX0) (T := TX0) (N := 4) hx hb hts hinX0 tyX0 tyX0_ok nmX0 hown hK.1 hP hD hS 0 rfl rfl 1 (by decide) w6 (fun _ h9 => h9) rfl hin rfl (by decide +kernel) rfl rfl (Nat.le_of_ble_eq_true rfl) dX0_init_17 (fun H locs hP hD hS => ?_)
  have hP : va_P G vwCl [(h, .inr (0, [.ref a1, .ref a2, .null, .int 0])), (a1, .inl (cI, 32, .inl qs7)), (a2, .inl (cI, 33, .inl ts15))] H := hP
  have hD : va_D A [(h, .inr (0, [.ref a1, .ref a2, .null, .int 0])), (a1, .inl (cI, 32, .inl qs7)), (a2, .inl (cI, 33, .inl ts15))] := hD
  refine lv_aload_n hx hb dX0_init_20 rfl (lv_at hl 0 rfl) ?_
  refine lv_bipush (v := 33) hx hb dX0_init_21 (by decide) ?_
  refine nwI hx hb w3 hK hP hD hS hA (n := 33) (N := 33) (by decide) (by decide) (by decide) (Nat.le_of_ble_eq_true rfl) (Nat.le_of_ble_eq_true rfl) dX0_init_23 (fun a3 H hP hD hS => ?_)
  obtain ⟨bs23, ebs23⟩ : ∃ z : Nat → Int32, z = fun _ => 0 := ⟨_, rfl⟩
  have hf := nm_s ebs23 hf
  rw [← ebs23] at hP hD
  have hP : va_P G vwCl [(h, .inr (0, [.ref a1, .ref a2, .null, .int 0])), (a1, .inl (cI, 32, .inl qs7)), (a2, .inl (cI, 33, .inl ts15)), (a3, .inl (cI, 33, .inl bs23))] H := hP
  have hD : va_D A [(h, .inr (0, [.ref a1, .ref a2, .null, .int 0])), (a1, .inl (cI, 32, .inl qs7)), (a2, .inl (cI, 33, .inl ts15)), (a3, .inl (cI, 33, .inl bs23))] := hD
  refine va_putF (D := G) (ci := 0) (v := .ref a3) (ty := (.array .int)) (C := RX0) (T := TX0) (N := 4) hx hb hts hinX0 tyX0 tyX0_ok nmX0 hown hK.1 hP hD hS 0 rfl rfl 2 (by decide) w7 (fun _ h9 => h9) rfl hin rfl (by decide +kernel) rfl rfl (Nat.le_of_ble_eq_true rfl) dX0_init_25 (fun H locs hP hD hS => ?_)
  have hP : va_P G vwCl [(h, .inr (0, [.ref a1, .ref a2, .ref a3, .int 0])), (a1, .inl (cI, 32, .inl qs7)), (a2, .inl (cI, 33, .inl ts15)), (a3, .inl (cI, 33, .inl bs23))] H := hP
  have hD : va_D A [(h, .inr (0, [.ref a1, .ref a2, .ref a3, .int 0])), (a1, .inl (cI, 32, .inl qs7)), (a2, .inl (cI, 33, .inl ts15)), (a3, .inl (cI, 33, .inl bs23))] := hD
  refine qf_s (Qf := Qf) hf ?_
  refine W.widen (k := 3) (n := 98) (Nat.le_of_ble_eq_true rfl) (Nat.le_of_ble_eq_true rfl) ?_
  have hP9 : va_P G vwCl [(h, .inr (0, [.ref a1, .ref a2, .ref a3, .int 0])), (a1, .inl (cI, 32, .inl qs7)), (a2, .inl (cI, 33, .inl ts15)), (a3, .inl (cI, 33, .inl bs23))] _ := hP.sub [0, 1, 2, 3] rfl
  have hD9 : va_D A [(h, .inr (0, [.ref a1, .ref a2, .ref a3, .int 0])), (a1, .inl (cI, 32, .inl qs7)), (a2, .inl (cI, 33, .inl ts15)), (a3, .inl (cI, 33, .inl bs23))] := hD.sub [0, 1, 2, 3] (by decide) rfl
  rw [hQf]
  exact W.vret hx hb hr (fun t ht hW => ⟨⟨(a1, a2, a3), rfl, trivial, by rw [ht]; exact hP9, hD9⟩, hS.F ht⟩) hS.2.2 dX0_init_28
def fX2_init_B70 (k70 : (Nat → Int32) → Int32 → Option ((Nat → Int32))) (mo : Nat → Int32) (x1 : Int32) : Option ((Nat → Int32)) :=
  if 200 < x1 then
    some mo
  else
    ckI x1 201 <|
    ckI (x1 - 1) 201 <|
    nm ((mo (Int32.toNatClampNeg x1)) + (mo (Int32.toNatClampNeg (x1 - 1)))) fun v93 =>
    ckI x1 201 <|
    nm (upd mo (Int32.toNatClampNeg x1) v93) fun mo93 =>
    nm (x1 + 1) fun v94 =>
    k70 mo93 v94
def fX2_init_L70 : Nat → (Nat → Int32) → Int32 → Option ((Nat → Int32))
  | 0, _, _ => none
  | n + 1, mo, x1 => fX2_init_B70 (fX2_init_L70   n)  mo x1
def fX2_init_B33 (k22 : (Nat → Int32) → Int32 → Option ((Nat → Int32))) (k33 : (Nat → Int32) → Int32 → Int32 → Option ((Nat → Int32))) (mo : Nat → Int32) (x1 : Int32) (x2 : Int32) : Option ((Nat → Int32)) :=
  if 200 < x2 then
    nm (x1 + 1) fun v62 =>
    k22 mo v62
  else
    ckI x2 201 <|
    ckI x1 201 <|
    nm ((mo (Int32.toNatClampNeg x2)) - (mo (Int32.toNatClampNeg x1))) fun v54 =>
    ckI x2 201 <|
    nm (upd mo (Int32.toNatClampNeg x2) v54) fun mo54 =>
    nm (x2 + x1) fun v58 =>
    k33 mo54 x1 v58
def fX2_init_L33 (k22 : (Nat → Int32) → Int32 → Option ((Nat → Int32))) : Nat → (Nat → Int32) → Int32 → Int32 → Option ((Nat → Int32))
  | 0, _, _, _ => none
  | n + 1, mo, x1, x2 => fX2_init_B33 k22 (fX2_init_L33 k22  n)  mo x1 x2
def fX2_init_B22 (k22 : (Nat → Int32) → Int32 → Option ((Nat → Int32))) (mo : Nat → Int32) (x1 : Int32) : Option ((Nat → Int32)) :=
  if 200 < x1 then
    fX2_init_L70   FU mo 2
  else
    nm (2 * x1) fun v32 =>
    fX2_init_L33 k22  FU mo x1 v32
def fX2_init_L22 : Nat → (Nat → Int32) → Int32 → Option ((Nat → Int32))
  | 0, _, _ => none
  | n + 1, mo, x1 => fX2_init_B22 (fX2_init_L22   n)  mo x1
def fX2_init : Option ((Nat → Int32)) :=
  nm (fun _ => (0 : Int32)) fun (mo8 : Nat → Int32) =>
  ckI 1 201 <|
  nm (upd mo8 (Int32.toNatClampNeg 1) 1) fun mo19 =>
  fX2_init_L22   FU mo19 1
set_option maxHeartbeats 4000000 in
set_option maxRecDepth 100000 in
theorem zX2_init (l : Launch) (G : va_G) (cI : ClassId) (sz : Nat) (h : Nat) {o_mo : Nat → Int32} (hf : fX2_init  = some o_mo) : mJv (S := Nat) l yX2_init wsX2_init ({ frames := 1, cells := 1, slots := 201, locals := 12 }) [.ref h] G cI [(h, .inr (2, [.null]))] sz (fun u => [(h, .inr (2, [.ref u])), (u, .inl (cI, 201, .inl o_mo))]) 1 201 := by
  refine Met.ofW (cc := cX2_init) (maxL := 3) (ret := none) (by decide) rfl ?_
  intro p e s m args below meth c s₁ B hml hv
  obtain ⟨rfl, hsz, hP, hK, hD0⟩ := hv
  have hx := B.exec
  have hb := B.bytes
  have hr := B.returns
  have hts := atoms_spec (ws := wsX2_init) B.pre
  have hown : s.vm.findClass RX2 = some m.cls := findClass_of_methodNamed B.named
  have hlocks := B.notSynchronized
  have hin : meth.name = "<init>" := (name_of_methodNamed B.named B.method).1
  subst hsz
  have hD := hD0.self (sz := s.heap.size)
  generalize hAe : va_A [(h, .inr (2, [.null]))] s.heap.size = A at hD ⊢
  have hA : ∀ q : Nat, s.heap.size ≤ q → A q := fun q h => by rw [← hAe]; exact Or.inr h
  have hS : va_S A s.heap s.heap [] := va_S.rf
  have w0 := hts (.methodLink RX2 3 objectInit) (by decide +kernel)
  have w1 := hts (.instanceMethod objectInit) (by decide +kernel)
  have w2 := hts (.code objectInit ⟨#[0xb1]⟩ 1 none) (by decide +kernel)
  have w3 := hts (.arrayClass .int) (by decide +kernel)
  have w4 := hts (.fieldLink RX2 9 "SternDesk$Rows" "moebiusSums" "[I") (by decide +kernel)
  have hinX2 : ∀ w ∈ u_ws RX2 TX2 1, w ∈ wsX2_init := by decide +kernel
  obtain ⟨Qf, hQf⟩ : ∃ f : ((Nat → Int32)) → State → Prop, f = fun z => MQ below (va_Qv (fun (_ : Nat) => True) (fun u t => va_P G vwCl [(h, .inr (2, [.ref u])), (u, .inl (cI, 201, .inl z))] t.heap ∧ va_D A [(h, .inr (2, [.ref u])), (u, .inl (cI, 201, .inl z))]) A) ([.ref h].toArray) s 1 201 A := ⟨_, rfl⟩
  suffices hgo : W p l e (headSpec wsX2_init ({ frames := 1, cells := 1, slots := 201, locals := 12 })).room s m ([.ref h].toArray) below meth c s.heap [] 0 0 (Qf o_mo) (entryFrame m ([.ref h].toArray) 3) by rw [hQf] at hgo; exact hgo
  have B70 : ∀ (k70 : (Nat → Int32) → Int32 → Option ((Nat → Int32))) (hk70 : ∀ (a4 : Nat) (mo : Nat → Int32) (x1 : Int32) (H : Heap) (locs : List Loc) (ls : Array Slot), k70 mo x1 = some o_mo → va_P G vwCl [(h, .inr (2, [.ref a4])), (a4, .inl (cI, 201, .inl mo))] H → va_D A [(h, .inr (2, [.ref a4])), (a4, .inl (cI, 201, .inl mo))] → va_S A s.heap H locs → lv_has ls 3 [(0, .ref h), (1, .int x1)] → W p l e (headSpec wsX2_init ({ frames := 1, cells := 1, slots := 201, locals := 12 })).room s m ([.ref h].toArray) below meth c H locs 1 201 (Qf o_mo) (F0 m 70 ls [])) (a4 : Nat) (mo : Nat → Int32) (x1 : Int32) (H : Heap) (locs : List Loc) (ls : Array Slot), fX2_init_B70 k70  mo x1 = some o_mo → va_P G vwCl [(h, .inr (2, [.ref a4])), (a4, .inl (cI, 201, .inl mo))] H → va_D A [(h, .inr (2, [.ref a4])), (a4, .inl (cI, 201, .inl mo))] → va_S A s.heap H locs → lv_has ls 3 [(0, .ref h), (1, .int x1)] → W p l e (headSpec wsX2_init ({ frames := 1, cells := 1, slots := 201, locals := 12 })).room s m ([.ref h].toArray) below meth c H locs 1 201 (Qf o_mo) (F0 m 70 ls []) := by
    intro k70 hk70 a4 mo x1 H locs ls hf hP hD hS hl
    unfold fX2_init_B70 at hf
    refine lv_iload_n hx hb dX2_init_70 rfl (lv_at hl 1 rfl) ?_
    refine lv_sipush (v := 200) hx hb dX2_init_71 (by decide) ?_
    refine lv_icmp_gt (tgt := 100) hx hb dX2_init_74 (by decide) (fun c74 => ?_) (fun c74 => ?_)
    · have hf := it_t c74 hf
      refine qf_s (Qf := Qf) hf ?_
      refine W.widen (k := 1) (n := 201) (Nat.le_of_ble_eq_true rfl) (Nat.le_of_ble_eq_true rfl) ?_
      have hP9 : va_P G vwCl [(h, .inr (2, [.ref a4])), (a4, .inl (cI, 201, .inl mo))] _ := hP.sub [0, 1] rfl
      have hD9 : va_D A [(h, .inr (2, [.ref a4])), (a4, .inl (cI, 201, .inl mo))] := hD.sub [0, 1] (by decide) rfl
      rw [hQf]
      exact W.vret hx hb hr (fun t ht hW => ⟨⟨(a4), rfl, trivial, by rw [ht]; exact hP9, hD9⟩, hS.F ht⟩) hS.2.2 dX2_init_100
    · have hf := it_f c74 hf
      refine lv_aload_n hx hb dX2_init_77 rfl (lv_at hl 0 rfl) ?_
      refine va_get (D := G) (ci := 2) (v := .ref a4) (C := RX2) (T := TX2) (N := 1) hx hb hts hinX2 hown hK.1 hP 0 rfl rfl 0 (by decide) w4 (fun _ h9 => h9) rfl dX2_init_78 ?_
      refine lv_iload_n hx hb dX2_init_81 rfl (lv_at hl 1 rfl) ?_
      refine lv_dup2_11 hx hb dX2_init_82 rfl rfl ?_
      obtain ⟨hi83, hf⟩ := ckI_s hf
      refine va_iald hx hb hK.1 hP 1 0 rfl rfl hi83 dX2_init_83 ?_
      refine lv_aload_n hx hb dX2_init_84 rfl (lv_at hl 0 rfl) ?_
      refine va_get (D := G) (ci := 2) (v := .ref a4) (C := RX2) (T := TX2) (N := 1) hx hb hts hinX2 hown hK.1 hP 0 rfl rfl 0 (by decide) w4 (fun _ h9 => h9) rfl dX2_init_85 ?_
      refine lv_iload_n hx hb dX2_init_88 rfl (lv_at hl 1 rfl) ?_
      refine lv_iconst (v := 1) hx hb dX2_init_89 (by decide) ?_
      refine lv_isub hx hb dX2_init_90 ?_
      obtain ⟨hi91, hf⟩ := ckI_s hf
      refine va_iald hx hb hK.1 hP 1 0 rfl rfl hi91 dX2_init_91 ?_
      refine lv_iadd hx hb dX2_init_92 ?_
      refine lv_topi (fun v93 ev93 => ?_)
      have hf := nm_s ev93 hf
      obtain ⟨hi93, hf⟩ := ckI_s hf
      refine va_iast hx hb hK.1 hP hD hS 1 0 rfl rfl hi93 dX2_init_93 (fun H locs hP hD hS => ?_)
      obtain ⟨mo93, emo93⟩ : ∃ z : Nat → Int32, z = upd mo (Int32.toNatClampNeg x1) v93 := ⟨_, rfl⟩
      have hf := nm_s emo93 hf
      rw [← emo93] at hP hD
      have hP : va_P G vwCl [(h, .inr (2, [.ref a4])), (a4, .inl (cI, 201, .inl mo93))] H := hP
      have hD : va_D A [(h, .inr (2, [.ref a4])), (a4, .inl (cI, 201, .inl mo93))] := hD
      obtain ⟨v94, ev94⟩ : ∃ y : Int32, y = x1 + 1 := ⟨_, rfl⟩
      have hf := nm_s ev94 hf
      refine lv_iinc (v := v94) (lv' := [(1, .int v94), (0, .ref h)]) hx hb dX2_init_94 hl (k := 1) rfl (by rw [ev94]; rfl) (by decide) rfl (fun ls hl => ?_)
      refine lv_goto (tgt := 70) hx hb dX2_init_97 (by decide) ?_
      exact hk70 a4 mo93 v94 _ _ _ hf hP hD hS (lv_sub hl [1, 0] rfl)
  have L70 : ∀ (fu : Nat) (a4 : Nat) (mo : Nat → Int32) (x1 : Int32) (H : Heap) (locs : List Loc) (ls : Array Slot), fX2_init_L70   fu mo x1 = some o_mo → va_P G vwCl [(h, .inr (2, [.ref a4])), (a4, .inl (cI, 201, .inl mo))] H → va_D A [(h, .inr (2, [.ref a4])), (a4, .inl (cI, 201, .inl mo))] → va_S A s.heap H locs → lv_has ls 3 [(0, .ref h), (1, .int x1)] → W p l e (headSpec wsX2_init ({ frames := 1, cells := 1, slots := 201, locals := 12 })).room s m ([.ref h].toArray) below meth c H locs 1 201 (Qf o_mo) (F0 m 70 ls []) := by
    intro  fu
    induction fu with
    | zero => intro a4 mo x1 H locs ls hf; cases hf
    | succ fu ih => intro a4 mo x1 H locs ls hf hP hD hS hl; exact B70 (fX2_init_L70   fu) ih a4 mo x1 _ _ _ hf hP hD hS hl
  have B33 : ∀ (k22 : (Nat → Int32) → Int32 → Option ((Nat → Int32))) (hk22 : ∀ (a4 : Nat) (mo : Nat → Int32) (x1 : Int32) (H : Heap) (locs : List Loc) (ls : Array Slot), k22 mo x1 = some o_mo → va_P G vwCl [(h, .inr (2, [.ref a4])), (a4, .inl (cI, 201, .inl mo))] H → va_D A [(h, .inr (2, [.ref a4])), (a4, .inl (cI, 201, .inl mo))] → va_S A s.heap H locs → lv_has ls 3 [(0, .ref h), (1, .int x1)] → W p l e (headSpec wsX2_init ({ frames := 1, cells := 1, slots := 201, locals := 12 })).room s m ([.ref h].toArray) below meth c H locs 1 201 (Qf o_mo) (F0 m 22 ls [])) (k33 : (Nat → Int32) → Int32 → Int32 → Option ((Nat → Int32))) (hk33 : ∀ (a4 : Nat) (mo : Nat → Int32) (x1 : Int32) (x2 : Int32) (H : Heap) (locs : List Loc) (ls : Array Slot), k33 mo x1 x2 = some o_mo → va_P G vwCl [(h, .inr (2, [.ref a4])), (a4, .inl (cI, 201, .inl mo))] H → va_D A [(h, .inr (2, [.ref a4])), (a4, .inl (cI, 201, .inl mo))] → va_S A s.heap H locs → lv_has ls 3 [(0, .ref h), (1, .int x1), (2, .int x2)] → W p l e (headSpec wsX2_init ({ frames := 1, cells := 1, slots := 201, locals := 12 })).room s m ([.ref h].toArray) below meth c H locs 1 201 (Qf o_mo) (F0 m 33 ls [])) (a4 : Nat) (mo : Nat → Int32) (x1 : Int32) (x2 : Int32) (H : Heap) (locs : List Loc) (ls : Array Slot), fX2_init_B33 k22 k33  mo x1 x2 = some o_mo → va_P G vwCl [(h, .inr (2, [.ref a4])), (a4, .inl (cI, 201, .inl mo))] H → va_D A [(h, .inr (2, [.ref a4])), (a4, .inl (cI, 201, .inl mo))] → va_S A s.heap H locs → lv_has ls 3 [(0, .ref h), (1, .int x1), (2, .int x2)] → W p l e (headSpec wsX2_init ({ frames := 1, cells := 1, slots := 201, locals := 12 })).room s m ([.ref h].toArray) below meth c H locs 1 201 (Qf o_mo) (F0 m 33 ls []) := by
    intro k22 hk22 k33 hk33 a4 mo x1 x2 H locs ls hf hP hD hS hl
    unfold fX2_init_B33 at hf
    refine lv_iload_n hx hb dX2_init_33 rfl (lv_at hl 2 rfl) ?_
    refine lv_sipush (v := 200) hx hb dX2_init_34 (by decide) ?_
    refine lv_icmp_gt (tgt := 62) hx hb dX2_init_37 (by decide) (fun c37 => ?_) (fun c37 => ?_)
    · have hf := it_t c37 hf
      obtain ⟨v62, ev62⟩ : ∃ y : Int32, y = x1 + 1 := ⟨_, rfl⟩
      have hf := nm_s ev62 hf
      refine lv_iinc (v := v62) (lv' := [(1, .int v62), (0, .ref h), (2, .int x2)]) hx hb dX2_init_62 hl (k := 1) rfl (by rw [ev62]; rfl) (by decide) rfl (fun ls hl => ?_)
      refine lv_goto (tgt := 22) hx hb dX2_init_65 (by decide) ?_
      exact hk22 a4 mo v62 _ _ _ hf hP hD hS (lv_sub hl [1, 0] rfl)
    · have hf := it_f c37 hf
      refine lv_aload_n hx hb dX2_init_40 rfl (lv_at hl 0 rfl) ?_
      refine va_get (D := G) (ci := 2) (v := .ref a4) (C := RX2) (T := TX2) (N := 1) hx hb hts hinX2 hown hK.1 hP 0 rfl rfl 0 (by decide) w4 (fun _ h9 => h9) rfl dX2_init_41 ?_
      refine lv_iload_n hx hb dX2_init_44 rfl (lv_at hl 2 rfl) ?_
      refine lv_dup2_11 hx hb dX2_init_45 rfl rfl ?_
      obtain ⟨hi46, hf⟩ := ckI_s hf
      refine va_iald hx hb hK.1 hP 1 0 rfl rfl hi46 dX2_init_46 ?_
      refine lv_aload_n hx hb dX2_init_47 rfl (lv_at hl 0 rfl) ?_
      refine va_get (D := G) (ci := 2) (v := .ref a4) (C := RX2) (T := TX2) (N := 1) hx hb hts hinX2 hown hK.1 hP 0 rfl rfl 0 (by decide) w4 (fun _ h9 => h9) rfl dX2_init_48 ?_
      refine lv_iload_n hx hb dX2_init_51 rfl (lv_at hl 1 rfl) ?_
      obtain ⟨hi52, hf⟩ := ckI_s hf
      refine va_iald hx hb hK.1 hP 1 0 rfl rfl hi52 dX2_init_52 ?_
      refine lv_isub hx hb dX2_init_53 ?_
      refine lv_topi (fun v54 ev54 => ?_)
      have hf := nm_s ev54 hf
      obtain ⟨hi54, hf⟩ := ckI_s hf
      refine va_iast hx hb hK.1 hP hD hS 1 0 rfl rfl hi54 dX2_init_54 (fun H locs hP hD hS => ?_)
      obtain ⟨mo54, emo54⟩ : ∃ z : Nat → Int32, z = upd mo (Int32.toNatClampNeg x2) v54 := ⟨_, rfl⟩
      have hf := nm_s emo54 hf
      rw [← emo54] at hP hD
      have hP : va_P G vwCl [(h, .inr (2, [.ref a4])), (a4, .inl (cI, 201, .inl mo54))] H := hP
      have hD : va_D A [(h, .inr (2, [.ref a4])), (a4, .inl (cI, 201, .inl mo54))] := hD
      refine lv_iload_n hx hb dX2_init_55 rfl (lv_at hl 2 rfl) ?_
      refine lv_iload_n hx hb dX2_init_56 rfl (lv_at hl 1 rfl) ?_
      refine lv_iadd hx hb dX2_init_57 ?_
      refine lv_topi (fun v58 ev58 => ?_)
      have hf := nm_s ev58 hf
      refine lv_istore_n (lv' := [(2, .int v58), (0, .ref h), (1, .int x1)]) hx hb dX2_init_58 rfl hl (by decide) rfl (fun ls hl => ?_)
      refine lv_goto (tgt := 33) hx hb dX2_init_59 (by decide) ?_
      exact hk33 a4 mo54 x1 v58 _ _ _ hf hP hD hS (lv_sub hl [1, 2, 0] rfl)
  have L33 : ∀ (k22 : (Nat → Int32) → Int32 → Option ((Nat → Int32))) (hk22 : ∀ (a4 : Nat) (mo : Nat → Int32) (x1 : Int32) (H : Heap) (locs : List Loc) (ls : Array Slot), k22 mo x1 = some o_mo → va_P G vwCl [(h, .inr (2, [.ref a4])), (a4, .inl (cI, 201, .inl mo))] H → va_D A [(h, .inr (2, [.ref a4])), (a4, .inl (cI, 201, .inl mo))] → va_S A s.heap H locs → lv_has ls 3 [(0, .ref h), (1, .int x1)] → W p l e (headSpec wsX2_init ({ frames := 1, cells := 1, slots := 201, locals := 12 })).room s m ([.ref h].toArray) below meth c H locs 1 201 (Qf o_mo) (F0 m 22 ls [])) (fu : Nat) (a4 : Nat) (mo : Nat → Int32) (x1 : Int32) (x2 : Int32) (H : Heap) (locs : List Loc) (ls : Array Slot), fX2_init_L33 k22  fu mo x1 x2 = some o_mo → va_P G vwCl [(h, .inr (2, [.ref a4])), (a4, .inl (cI, 201, .inl mo))] H → va_D A [(h, .inr (2, [.ref a4])), (a4, .inl (cI, 201, .inl mo))] → va_S A s.heap H locs → lv_has ls 3 [(0, .ref h), (1, .int x1), (2, .int x2)] → W p l e (headSpec wsX2_init ({ frames := 1, cells := 1, slots := 201, locals := 12 })).room s m ([.ref h].toArray) below meth c H locs 1 201 (Qf o_mo) (F0 m 33 ls []) := by
    intro k22 hk22 fu
    induction fu with
    | zero => intro a4 mo x1 x2 H locs ls hf; cases hf
    | succ fu ih => intro a4 mo x1 x2 H locs ls hf hP hD hS hl; exact B33 k22 hk22 (fX2_init_L33 k22  fu) ih a4 mo x1 x2 _ _ _ hf hP hD hS hl
  have B22 : ∀ (k22 : (Nat → Int32) → Int32 → Option ((Nat → Int32))) (hk22 : ∀ (a4 : Nat) (mo : Nat → Int32) (x1 : Int32) (H : Heap) (locs : List Loc) (ls : Array Slot), k22 mo x1 = some o_mo → va_P G vwCl [(h, .inr (2, [.ref a4])), (a4, .inl (cI, 201, .inl mo))] H → va_D A [(h, .inr (2, [.ref a4])), (a4, .inl (cI, 201, .inl mo))] → va_S A s.heap H locs → lv_has ls 3 [(0, .ref h), (1, .int x1)] → W p l e (headSpec wsX2_init ({ frames := 1, cells := 1, slots := 201, locals := 12 })).room s m ([.ref h].toArray) below meth c H locs 1 201 (Qf o_mo) (F0 m 22 ls [])) (a4 : Nat) (mo : Nat → Int32) (x1 : Int32) (H : Heap) (locs : List Loc) (ls : Array Slot), fX2_init_B22 k22  mo x1 = some o_mo → va_P G vwCl [(h, .inr (2, [.ref a4])), (a4, .inl (cI, 201, .inl mo))] H → va_D A [(h, .inr (2, [.ref a4])), (a4, .inl (cI, 201, .inl mo))] → va_S A s.heap H locs → lv_has ls 3 [(0, .ref h), (1, .int x1)] → W p l e (headSpec wsX2_init ({ frames := 1, cells := 1, slots := 201, locals := 12 })).room s m ([.ref h].toArray) below meth c H locs 1 201 (Qf o_mo) (F0 m 22 ls []) := by
    intro k22 hk22 a4 mo x1 H locs ls hf hP hD hS hl
    unfold fX2_init_B22 at hf
    refine lv_iload_n hx hb dX2_init_22 rfl (lv_at hl 1 rfl) ?_
    refine lv_sipush (v := 200) hx hb dX2_init_23 (by decide) ?_
    refine lv_icmp_gt (tgt := 68) hx hb dX2_init_26 (by decide) (fun c26 => ?_) (fun c26 => ?_)
    · have hf := it_t c26 hf
      refine lv_iconst (v := 2) hx hb dX2_init_68 (by decide) ?_
      refine lv_istore_n (lv' := [(1, .int 2), (0, .ref h)]) hx hb dX2_init_69 rfl hl (by decide) rfl (fun ls hl => ?_)
      exact L70  FU a4 mo 2 _ _ _ hf hP hD hS (lv_sub hl [1, 0] rfl)
    · have hf := it_f c26 hf
      refine lv_iconst (v := 2) hx hb dX2_init_29 (by decide) ?_
      refine lv_iload_n hx hb dX2_init_30 rfl (lv_at hl 1 rfl) ?_
      refine lv_imul hx hb dX2_init_31 ?_
      refine lv_topi (fun v32 ev32 => ?_)
      have hf := nm_s ev32 hf
      refine lv_istore_n (lv' := [(2, .int v32), (0, .ref h), (1, .int x1)]) hx hb dX2_init_32 rfl hl (by decide) rfl (fun ls hl => ?_)
      exact L33 k22 hk22 FU a4 mo x1 v32 _ _ _ hf hP hD hS (lv_sub hl [1, 2, 0] rfl)
  have L22 : ∀ (fu : Nat) (a4 : Nat) (mo : Nat → Int32) (x1 : Int32) (H : Heap) (locs : List Loc) (ls : Array Slot), fX2_init_L22   fu mo x1 = some o_mo → va_P G vwCl [(h, .inr (2, [.ref a4])), (a4, .inl (cI, 201, .inl mo))] H → va_D A [(h, .inr (2, [.ref a4])), (a4, .inl (cI, 201, .inl mo))] → va_S A s.heap H locs → lv_has ls 3 [(0, .ref h), (1, .int x1)] → W p l e (headSpec wsX2_init ({ frames := 1, cells := 1, slots := 201, locals := 12 })).room s m ([.ref h].toArray) below meth c H locs 1 201 (Qf o_mo) (F0 m 22 ls []) := by
    intro  fu
    induction fu with
    | zero => intro a4 mo x1 H locs ls hf; cases hf
    | succ fu ih => intro a4 mo x1 H locs ls hf hP hD hS hl; exact B22 (fX2_init_L22   fu) ih a4 mo x1 _ _ _ hf hP hD hS hl
  have hl := lv_entry ([.ref h]) (n := 3) (Nat.le_of_ble_eq_true rfl)
  rw [lg_entry_eq]
  generalize (lg_sl ([.ref h]) ++ List.replicate (3 - (lg_sl ([.ref h])).length) Slot.unset).toArray = ls at hl ⊢
  have hl : lv_has ls 3 [(0, .ref h)] := hl
  unfold fX2_init at hf
  refine lv_aload_n hx hb dX2_init_0 rfl (lv_at hl 0 rfl) ?_
  refine W.objInit hx hb hown w0 w1 w2 rfl (by rw [hml]; exact hl.1) rfl dX2_init_1 (Nat.le_of_ble_eq_true rfl) (Nat.le_of_ble_eq_true rfl) ?_
  refine W.eq (g2 := F0 m 4 ls []) rfl ?_
  refine lv_aload_n hx hb dX2_init_4 rfl (lv_at hl 0 rfl) ?_
  refine lv_sipush (v := 201) hx hb dX2_init_5 (by decide) ?_
  refine nwI hx hb w3 hK hP hD hS hA (n := 201) (N := 201) (by decide) (by decide) (by decide) (Nat.le_of_ble_eq_true rfl) (Nat.le_of_ble_eq_true rfl) dX2_init_8 (fun a4 H hP hD hS => ?_)
  obtain ⟨mo8, emo8⟩ : ∃ z : Nat → Int32, z = fun _ => 0 := ⟨_, rfl⟩
  have hf := nm_s emo8 hf
  rw [← emo8] at hP hD
  have hP : va_P G vwCl [(h, .inr (2, [.null])), (a4, .inl (cI, 201, .inl mo8))] H := hP
  have hD : va_D A [(h, .inr (2, [.null])), (a4, .inl (cI, 201, .inl mo8))] := hD
  refine va_putF (D := G) (ci := 2) (v := .ref a4) (ty := (.array .int)) (C := RX2) (T := TX2) (N := 1) hx hb hts hinX2 tyX2 tyX2_ok nmX2 hown hK.1 hP hD hS 0 rfl rfl 0 (by decide) w4 (fun _ h9 => h9) rfl hin rfl (by decide +kernel) rfl rfl (Nat.le_of_ble_eq_true rfl) dX2_init_10 (fun H locs hP hD hS => ?_)
  have hP : va_P G vwCl [(h, .inr (2, [.ref a4])), (a4, .inl (cI, 201, .inl mo8))] H := hP
  have hD : va_D A [(h, .inr (2, [.ref a4])), (a4, .inl (cI, 201, .inl mo8))] := hD
  refine lv_aload_n hx hb dX2_init_13 rfl (lv_at hl 0 rfl) ?_
  refine va_get (D := G) (ci := 2) (v := .ref a4) (C := RX2) (T := TX2) (N := 1) hx hb hts hinX2 hown hK.1 hP 0 rfl rfl 0 (by decide) w4 (fun _ h9 => h9) rfl dX2_init_14 ?_
  refine lv_iconst (v := 1) hx hb dX2_init_17 (by decide) ?_
  refine lv_iconst (v := 1) hx hb dX2_init_18 (by decide) ?_
  obtain ⟨hi19, hf⟩ := ckI_s hf
  refine va_iast hx hb hK.1 hP hD hS 1 0 rfl rfl hi19 dX2_init_19 (fun H locs hP hD hS => ?_)
  obtain ⟨mo19, emo19⟩ : ∃ z : Nat → Int32, z = upd mo8 (Int32.toNatClampNeg 1) 1 := ⟨_, rfl⟩
  have hf := nm_s emo19 hf
  rw [← emo19] at hP hD
  have hP : va_P G vwCl [(h, .inr (2, [.ref a4])), (a4, .inl (cI, 201, .inl mo19))] H := hP
  have hD : va_D A [(h, .inr (2, [.ref a4])), (a4, .inl (cI, 201, .inl mo19))] := hD
  refine lv_iconst (v := 1) hx hb dX2_init_20 (by decide) ?_
  refine lv_istore_n (lv' := [(1, .int 1), (0, .ref h)]) hx hb dX2_init_21 rfl hl (by decide) rfl (fun ls hl => ?_)
  exact L22  FU a4 mo19 1 _ _ _ hf hP hD hS (lv_sub hl [1, 0] rfl)
def fX4_init : Option (Int32 × Int32 × Int32 × Int32 × (Nat → Int32) × Int32 × (Nat → Int32) × Int64 × Int64 × Int64 × Int64) :=
  nm (fun _ => (0 : Int32)) fun (mte17 : Nat → Int32) =>
  nm (fun _ => (0 : Int32)) fun (mru25 : Nat → Int32) =>
  some (0, 1, 1, 0, mte17, 0, mru25, 0, 0, 0, 0)
set_option maxHeartbeats 4000000 in
set_option maxRecDepth 100000 in
theorem zX4_init (l : Launch) (G : va_G) (cI : ClassId) (sz : Nat) (h : Nat) {o_mth : Int32} {o_mtp : Int32} {o_mbt : Int32} {o_mmn : Int32} {o_mte : Nat → Int32} {o_mrs : Int32} {o_mru : Nat → Int32} {o_mlt : Int64} {o_mlb : Int64} {o_mht : Int64} {o_mhb : Int64} (hf : fX4_init  = some (o_mth, o_mtp, o_mbt, o_mmn, o_mte, o_mrs, o_mru, o_mlt, o_mlb, o_mht, o_mhb)) : mJv (S := Nat × Nat) l yX4_init wsX4_init ({ frames := 1, cells := 2, slots := 128, locals := 12 }) [.ref h] G cI [(h, .inr (4, [.int 0, .int 0, .int 0, .int 0, .null, .int 0, .null, .long 0, .long 0, .long 0, .long 0]))] sz (fun u => [(h, .inr (4, [.int o_mth, .int o_mtp, .int o_mbt, .int o_mmn, .ref u.1, .int o_mrs, .ref u.2, .long o_mlt, .long o_mlb, .long o_mht, .long o_mhb])), (u.1, .inl (cI, 64, .inl o_mte)), (u.2, .inl (cI, 64, .inl o_mru))]) 2 128 := by
  refine Met.ofW (cc := cX4_init) (maxL := 1) (ret := none) (by decide) rfl ?_
  intro p e s m args below meth c s₁ B hml hv
  obtain ⟨rfl, hsz, hP, hK, hD0⟩ := hv
  have hx := B.exec
  have hb := B.bytes
  have hr := B.returns
  have hts := atoms_spec (ws := wsX4_init) B.pre
  have hown : s.vm.findClass RX4 = some m.cls := findClass_of_methodNamed B.named
  have hlocks := B.notSynchronized
  have hin : meth.name = "<init>" := (name_of_methodNamed B.named B.method).1
  subst hsz
  have hD := hD0.self (sz := s.heap.size)
  generalize hAe : va_A [(h, .inr (4, [.int 0, .int 0, .int 0, .int 0, .null, .int 0, .null, .long 0, .long 0, .long 0, .long 0]))] s.heap.size = A at hD ⊢
  have hA : ∀ q : Nat, s.heap.size ≤ q → A q := fun q h => by rw [← hAe]; exact Or.inr h
  have hS : va_S A s.heap s.heap [] := va_S.rf
  have w0 := hts (.methodLink RX4 1 objectInit) (by decide +kernel)
  have w1 := hts (.instanceMethod objectInit) (by decide +kernel)
  have w2 := hts (.code objectInit ⟨#[0xb1]⟩ 1 none) (by decide +kernel)
  have w3 := hts (.fieldLink RX4 7 "SternDeskModel" "top" "I") (by decide +kernel)
  have hinX4 : ∀ w ∈ u_ws RX4 TX4 11, w ∈ wsX4_init := by decide +kernel
  have w5 := hts (.fieldLink RX4 13 "SternDeskModel" "bottom" "I") (by decide +kernel)
  have w6 := hts (.arrayClass .int) (by decide +kernel)
  have w7 := hts (.fieldLink RX4 16 "SternDeskModel" "terms" "[I") (by decide +kernel)
  have w8 := hts (.fieldLink RX4 20 "SternDeskModel" "run" "[I") (by decide +kernel)
  obtain ⟨Qf, hQf⟩ : ∃ f : (Int32 × Int32 × Int32 × Int32 × (Nat → Int32) × Int32 × (Nat → Int32) × Int64 × Int64 × Int64 × Int64) → State → Prop, f = fun z => MQ below (va_Qv (fun (_ : Nat × Nat) => True) (fun u t => va_P G vwCl [(h, .inr (4, [.int z.1, .int z.2.1, .int z.2.2.1, .int z.2.2.2.1, .ref u.1, .int z.2.2.2.2.2.1, .ref u.2, .long z.2.2.2.2.2.2.2.1, .long z.2.2.2.2.2.2.2.2.1, .long z.2.2.2.2.2.2.2.2.2.1, .long z.2.2.2.2.2.2.2.2.2.2])), (u.1, .inl (cI, 64, .inl z.2.2.2.2.1)), (u.2, .inl (cI, 64, .inl z.2.2.2.2.2.2.1))] t.heap ∧ va_D A [(h, .inr (4, [.int z.1, .int z.2.1, .int z.2.2.1, .int z.2.2.2.1, .ref u.1, .int z.2.2.2.2.2.1, .ref u.2, .long z.2.2.2.2.2.2.2.1, .long z.2.2.2.2.2.2.2.2.1, .long z.2.2.2.2.2.2.2.2.2.1, .long z.2.2.2.2.2.2.2.2.2.2])), (u.1, .inl (cI, 64, .inl z.2.2.2.2.1)), (u.2, .inl (cI, 64, .inl z.2.2.2.2.2.2.1))]) A) ([.ref h].toArray) s 2 128 A := ⟨_, rfl⟩
  suffices hgo : W p l e (headSpec wsX4_init ({ frames := 1, cells := 2, slots := 128, locals := 12 })).room s m ([.ref h].toArray) below meth c s.heap [] 0 0 (Qf (o_mth, o_mtp, o_mbt, o_mmn, o_mte, o_mrs, o_mru, o_mlt, o_mlb, o_mht, o_mhb)) (entryFrame m ([.ref h].toArray) 1) by rw [hQf] at hgo; exact hgo
  have hl := lv_entry ([.ref h]) (n := 1) (Nat.le_of_ble_eq_true rfl)
  rw [lg_entry_eq]
  generalize (lg_sl ([.ref h]) ++ List.replicate (1 - (lg_sl ([.ref h])).length) Slot.unset).toArray = ls at hl ⊢
  have hl : lv_has ls 1 [(0, .ref h)] := hl
  unfold fX4_init at hf
  refine lv_aload_n hx hb dX4_init_0 rfl (lv_at hl 0 rfl) ?_
  refine W.objInit hx hb hown w0 w1 w2 rfl (by rw [hml]; exact hl.1) rfl dX4_init_1 (Nat.le_of_ble_eq_true rfl) (Nat.le_of_ble_eq_true rfl) ?_
  refine W.eq (g2 := F0 m 4 ls []) rfl ?_
  refine lv_aload_n hx hb dX4_init_4 rfl (lv_at hl 0 rfl) ?_
  refine lv_iconst (v := 1) hx hb dX4_init_5 (by decide) ?_
  refine va_put (D := G) (ci := 4) (v := .int 1) (ty := .int) (C := RX4) (T := TX4) (N := 11) hx hb hts hinX4 tyX4 tyX4_ok nmX4 hown hK.1 hP hD hS 0 rfl rfl 1 (by decide) w3 (fun _ h9 => h9) rfl (by decide +kernel) rfl rfl (Nat.le_of_ble_eq_true rfl) dX4_init_6 (fun H locs hP hD hS => ?_)
  have hP : va_P G vwCl [(h, .inr (4, [.int 0, .int 1, .int 0, .int 0, .null, .int 0, .null, .long 0, .long 0, .long 0, .long 0]))] H := hP
  have hD : va_D A [(h, .inr (4, [.int 0, .int 1, .int 0, .int 0, .null, .int 0, .null, .long 0, .long 0, .long 0, .long 0]))] := hD
  refine lv_aload_n hx hb dX4_init_9 rfl (lv_at hl 0 rfl) ?_
  refine lv_iconst (v := 1) hx hb dX4_init_10 (by decide) ?_
  refine va_put (D := G) (ci := 4) (v := .int 1) (ty := .int) (C := RX4) (T := TX4) (N := 11) hx hb hts hinX4 tyX4 tyX4_ok nmX4 hown hK.1 hP hD hS 0 rfl rfl 2 (by decide) w5 (fun _ h9 => h9) rfl (by decide +kernel) rfl rfl (Nat.le_of_ble_eq_true rfl) dX4_init_11 (fun H locs hP hD hS => ?_)
  have hP : va_P G vwCl [(h, .inr (4, [.int 0, .int 1, .int 1, .int 0, .null, .int 0, .null, .long 0, .long 0, .long 0, .long 0]))] H := hP
  have hD : va_D A [(h, .inr (4, [.int 0, .int 1, .int 1, .int 0, .null, .int 0, .null, .long 0, .long 0, .long 0, .long 0]))] := hD
  refine lv_aload_n hx hb dX4_init_14 rfl (lv_at hl 0 rfl) ?_
  refine lv_bipush (v := 64) hx hb dX4_init_15 (by decide) ?_
  refine nwI hx hb w6 hK hP hD hS hA (n := 64) (N := 64) (by decide) (by decide) (by decide) (Nat.le_of_ble_eq_true rfl) (Nat.le_of_ble_eq_true rfl) dX4_init_17 (fun a5 H hP hD hS => ?_)
  obtain ⟨mte17, emte17⟩ : ∃ z : Nat → Int32, z = fun _ => 0 := ⟨_, rfl⟩
  have hf := nm_s emte17 hf
  rw [← emte17] at hP hD
  have hP : va_P G vwCl [(h, .inr (4, [.int 0, .int 1, .int 1, .int 0, .null, .int 0, .null, .long 0, .long 0, .long 0, .long 0])), (a5, .inl (cI, 64, .inl mte17))] H := hP
  have hD : va_D A [(h, .inr (4, [.int 0, .int 1, .int 1, .int 0, .null, .int 0, .null, .long 0, .long 0, .long 0, .long 0])), (a5, .inl (cI, 64, .inl mte17))] := hD
  refine va_putF (D := G) (ci := 4) (v := .ref a5) (ty := (.array .int)) (C := RX4) (T := TX4) (N := 11) hx hb hts hinX4 tyX4 tyX4_ok nmX4 hown hK.1 hP hD hS 0 rfl rfl 4 (by decide) w7 (fun _ h9 => h9) rfl hin rfl (by decide +kernel) rfl rfl (Nat.le_of_ble_eq_true rfl) dX4_init_19 (fun H locs hP hD hS => ?_)
  have hP : va_P G vwCl [(h, .inr (4, [.int 0, .int 1, .int 1, .int 0, .ref a5, .int 0, .null, .long 0, .long 0, .long 0, .long 0])), (a5, .inl (cI, 64, .inl mte17))] H := hP
  have hD : va_D A [(h, .inr (4, [.int 0, .int 1, .int 1, .int 0, .ref a5, .int 0, .null, .long 0, .long 0, .long 0, .long 0])), (a5, .inl (cI, 64, .inl mte17))] := hD
  refine lv_aload_n hx hb dX4_init_22 rfl (lv_at hl 0 rfl) ?_
  refine lv_bipush (v := 64) hx hb dX4_init_23 (by decide) ?_
  refine nwI hx hb w6 hK hP hD hS hA (n := 64) (N := 64) (by decide) (by decide) (by decide) (Nat.le_of_ble_eq_true rfl) (Nat.le_of_ble_eq_true rfl) dX4_init_25 (fun a6 H hP hD hS => ?_)
  obtain ⟨mru25, emru25⟩ : ∃ z : Nat → Int32, z = fun _ => 0 := ⟨_, rfl⟩
  have hf := nm_s emru25 hf
  rw [← emru25] at hP hD
  have hP : va_P G vwCl [(h, .inr (4, [.int 0, .int 1, .int 1, .int 0, .ref a5, .int 0, .null, .long 0, .long 0, .long 0, .long 0])), (a5, .inl (cI, 64, .inl mte17)), (a6, .inl (cI, 64, .inl mru25))] H := hP
  have hD : va_D A [(h, .inr (4, [.int 0, .int 1, .int 1, .int 0, .ref a5, .int 0, .null, .long 0, .long 0, .long 0, .long 0])), (a5, .inl (cI, 64, .inl mte17)), (a6, .inl (cI, 64, .inl mru25))] := hD
  refine va_putF (D := G) (ci := 4) (v := .ref a6) (ty := (.array .int)) (C := RX4) (T := TX4) (N := 11) hx hb hts hinX4 tyX4 tyX4_ok nmX4 hown hK.1 hP hD hS 0 rfl rfl 6 (by decide) w8 (fun _ h9 => h9) rfl hin rfl (by decide +kernel) rfl rfl (Nat.le_of_ble_eq_true rfl) dX4_init_27 (fun H locs hP hD hS => ?_)
  have hP : va_P G vwCl [(h, .inr (4, [.int 0, .int 1, .int 1, .int 0, .ref a5, .int 0, .ref a6, .long 0, .long 0, .long 0, .long 0])), (a5, .inl (cI, 64, .inl mte17)), (a6, .inl (cI, 64, .inl mru25))] H := hP
  have hD : va_D A [(h, .inr (4, [.int 0, .int 1, .int 1, .int 0, .ref a5, .int 0, .ref a6, .long 0, .long 0, .long 0, .long 0])), (a5, .inl (cI, 64, .inl mte17)), (a6, .inl (cI, 64, .inl mru25))] := hD
  refine lv_aload_n hx hb dX4_init_30 rfl (lv_at hl 0 rfl) ?_
  refine lv_iconst (v := 1) hx hb dX4_init_31 (by decide) ?_
  refine va_put (D := G) (ci := 4) (v := .int 1) (ty := .int) (C := RX4) (T := TX4) (N := 11) hx hb hts hinX4 tyX4 tyX4_ok nmX4 hown hK.1 hP hD hS 0 rfl rfl 1 (by decide) w3 (fun _ h9 => h9) rfl (by decide +kernel) rfl rfl (Nat.le_of_ble_eq_true rfl) dX4_init_32 (fun H locs hP hD hS => ?_)
  have hP : va_P G vwCl [(h, .inr (4, [.int 0, .int 1, .int 1, .int 0, .ref a5, .int 0, .ref a6, .long 0, .long 0, .long 0, .long 0])), (a5, .inl (cI, 64, .inl mte17)), (a6, .inl (cI, 64, .inl mru25))] H := hP
  have hD : va_D A [(h, .inr (4, [.int 0, .int 1, .int 1, .int 0, .ref a5, .int 0, .ref a6, .long 0, .long 0, .long 0, .long 0])), (a5, .inl (cI, 64, .inl mte17)), (a6, .inl (cI, 64, .inl mru25))] := hD
  refine qf_s (Qf := Qf) hf ?_
  refine W.widen (k := 2) (n := 128) (Nat.le_of_ble_eq_true rfl) (Nat.le_of_ble_eq_true rfl) ?_
  have hP9 : va_P G vwCl [(h, .inr (4, [.int 0, .int 1, .int 1, .int 0, .ref a5, .int 0, .ref a6, .long 0, .long 0, .long 0, .long 0])), (a5, .inl (cI, 64, .inl mte17)), (a6, .inl (cI, 64, .inl mru25))] _ := hP.sub [0, 1, 2] rfl
  have hD9 : va_D A [(h, .inr (4, [.int 0, .int 1, .int 1, .int 0, .ref a5, .int 0, .ref a6, .long 0, .long 0, .long 0, .long 0])), (a5, .inl (cI, 64, .inl mte17)), (a6, .inl (cI, 64, .inl mru25))] := hD.sub [0, 1, 2] (by decide) rfl
  rw [hQf]
  exact W.vret hx hb hr (fun t ht hW => ⟨⟨(a5, a6), rfl, trivial, by rw [ht]; exact hP9, hD9⟩, hS.F ht⟩) hS.2.2 dX4_init_35
def fX3_init : Option ((Nat → Int32) × (Nat → Int32) × (Nat → Int32) × Int32 × (Nat → Int32)) :=
  bd4 (fX0_init) fun qs_9 ts_9 bs_9 cn_9 =>
  bd1 (fX2_init) fun mo_20 =>
  bd4 (fX0_expand qs_9 ts_9 bs_9 cn_9 1 1) fun qs_32 ts_32 bs_32 cn_32 =>
  some (qs_32, ts_32, bs_32, cn_32, mo_20)
set_option maxHeartbeats 4000000 in
set_option maxRecDepth 100000 in
theorem zX3_init (l : Launch) (G : va_G) (cI : ClassId) (sz : Nat) (h : Nat) {o_qs : Nat → Int32} {o_ts : Nat → Int32} {o_bs : Nat → Int32} {o_cn : Int32} {o_mo : Nat → Int32} (hf : fX3_init  = some (o_qs, o_ts, o_bs, o_cn, o_mo)) : mJv (S := Nat × Nat × Nat × Nat × Nat × Nat) l yX3_init wsX3_init ({ frames := 3, cells := 6, slots := 304, locals := 70 }) [.ref h] G cI [(h, .inr (3, [.null, .null]))] sz (fun u => [(h, .inr (3, [.ref u.1, .ref u.2.2.2.2.1])), (u.1, .inr (0, [.ref u.2.1, .ref u.2.2.1, .ref u.2.2.2.1, .int o_cn])), (u.2.1, .inl (cI, 32, .inl o_qs)), (u.2.2.1, .inl (cI, 33, .inl o_ts)), (u.2.2.2.1, .inl (cI, 33, .inl o_bs)), (u.2.2.2.2.1, .inr (2, [.ref u.2.2.2.2.2])), (u.2.2.2.2.2, .inl (cI, 201, .inl o_mo))]) 6 304 := by
  refine Met.ofW (cc := cX3_init) (maxL := 1) (ret := none) (by decide) rfl ?_
  intro p e s m args below meth c s₁ B hml hv
  obtain ⟨rfl, hsz, hP, hK, hD0⟩ := hv
  have hx := B.exec
  have hb := B.bytes
  have hr := B.returns
  have hts := atoms_spec (ws := wsX3_init) B.pre
  have hown : s.vm.findClass RX3 = some m.cls := findClass_of_methodNamed B.named
  have hlocks := B.notSynchronized
  have hin : meth.name = "<init>" := (name_of_methodNamed B.named B.method).1
  subst hsz
  have hD := hD0.self (sz := s.heap.size)
  generalize hAe : va_A [(h, .inr (3, [.null, .null]))] s.heap.size = A at hD ⊢
  have hA : ∀ q : Nat, s.heap.size ≤ q → A q := fun q h => by rw [← hAe]; exact Or.inr h
  have hS : va_S A s.heap s.heap [] := va_S.rf
  have w0 := hts (.methodLink RX3 1 objectInit) (by decide +kernel)
  have w1 := hts (.instanceMethod objectInit) (by decide +kernel)
  have w2 := hts (.code objectInit ⟨#[0xb1]⟩ 1 none) (by decide +kernel)
  have hinX0 : ∀ w ∈ u_ws RX0 TX0 4, w ∈ wsX3_init := by decide +kernel
  have w4 := hts (.classLink RX3 7 RX0) (by decide +kernel)
  have w5 := hts (.instantiable RX0 4) (by decide +kernel)
  have w6 := hts (.initialized RX0) (by decide +kernel)
  have w7 := hts (.instanceMethod yX0_init) (by decide +kernel)
  have w8 := hts (.fieldLink RX3 10 "SternDesk" "hand" "LSternDesk$Expansion;") (by decide +kernel)
  have hinX3 : ∀ w ∈ u_ws RX3 TX3 2, w ∈ wsX3_init := by decide +kernel
  have hinX2 : ∀ w ∈ u_ws RX2 TX2 1, w ∈ wsX3_init := by decide +kernel
  have w11 := hts (.classLink RX3 16 RX2) (by decide +kernel)
  have w12 := hts (.instantiable RX2 1) (by decide +kernel)
  have w13 := hts (.initialized RX2) (by decide +kernel)
  have w14 := hts (.methodLink RX3 18 yX2_init) (by decide +kernel)
  have w15 := hts (.instanceMethod yX2_init) (by decide +kernel)
  have w16 := hts (.fieldLink RX3 19 "SternDesk" "rows" "LSternDesk$Rows;") (by decide +kernel)
  obtain ⟨Qf, hQf⟩ : ∃ f : ((Nat → Int32) × (Nat → Int32) × (Nat → Int32) × Int32 × (Nat → Int32)) → State → Prop, f = fun z => MQ below (va_Qv (fun (_ : Nat × Nat × Nat × Nat × Nat × Nat) => True) (fun u t => va_P G vwCl [(h, .inr (3, [.ref u.1, .ref u.2.2.2.2.1])), (u.1, .inr (0, [.ref u.2.1, .ref u.2.2.1, .ref u.2.2.2.1, .int z.2.2.2.1])), (u.2.1, .inl (cI, 32, .inl z.1)), (u.2.2.1, .inl (cI, 33, .inl z.2.1)), (u.2.2.2.1, .inl (cI, 33, .inl z.2.2.1)), (u.2.2.2.2.1, .inr (2, [.ref u.2.2.2.2.2])), (u.2.2.2.2.2, .inl (cI, 201, .inl z.2.2.2.2))] t.heap ∧ va_D A [(h, .inr (3, [.ref u.1, .ref u.2.2.2.2.1])), (u.1, .inr (0, [.ref u.2.1, .ref u.2.2.1, .ref u.2.2.2.1, .int z.2.2.2.1])), (u.2.1, .inl (cI, 32, .inl z.1)), (u.2.2.1, .inl (cI, 33, .inl z.2.1)), (u.2.2.2.1, .inl (cI, 33, .inl z.2.2.1)), (u.2.2.2.2.1, .inr (2, [.ref u.2.2.2.2.2])), (u.2.2.2.2.2, .inl (cI, 201, .inl z.2.2.2.2))]) A) ([.ref h].toArray) s 6 304 A := ⟨_, rfl⟩
  suffices hgo : W p l e (headSpec wsX3_init ({ frames := 3, cells := 6, slots := 304, locals := 70 })).room s m ([.ref h].toArray) below meth c s.heap [] 0 0 (Qf (o_qs, o_ts, o_bs, o_cn, o_mo)) (entryFrame m ([.ref h].toArray) 1) by rw [hQf] at hgo; exact hgo
  have hl := lv_entry ([.ref h]) (n := 1) (Nat.le_of_ble_eq_true rfl)
  rw [lg_entry_eq]
  generalize (lg_sl ([.ref h]) ++ List.replicate (1 - (lg_sl ([.ref h])).length) Slot.unset).toArray = ls at hl ⊢
  have hl : lv_has ls 1 [(0, .ref h)] := hl
  unfold fX3_init at hf
  refine lv_aload_n hx hb dX3_init_0 rfl (lv_at hl 0 rfl) ?_
  refine W.objInit hx hb hown w0 w1 w2 rfl (by rw [hml]; exact hl.1) rfl dX3_init_1 (Nat.le_of_ble_eq_true rfl) (Nat.le_of_ble_eq_true rfl) ?_
  refine W.eq (g2 := F0 m 4 ls []) rfl ?_
  refine lv_aload_n hx hb dX3_init_4 rfl (lv_at hl 0 rfl) ?_
  refine va_new (ci := 0) (fs := [.null, .null, .null, .int 0]) (C := RX0) (T := TX0) (N := 4) hx hb hts hinX0 tyX0 tyX0_ok hown w4 w5 w6 hK.1 hP hD hS hA rfl (fun j hj => by rcases (show j = 0 ∨ j = 1 ∨ j = 2 ∨ j = 3 by omega) with rfl | rfl | rfl | rfl <;> rfl) (Nat.le_of_ble_eq_true rfl) (Nat.le_of_ble_eq_true rfl) dX3_init_5 (fun e0 H hP hD hS => ?_)
  have hP : va_P G vwCl [(h, .inr (3, [.null, .null])), (e0, .inr (0, [.null, .null, .null, .int 0]))] H := hP
  have hD : va_D A [(h, .inr (3, [.null, .null])), (e0, .inr (0, [.null, .null, .null, .int 0]))] := hD
  refine lv_dup hx hb dX3_init_8 rfl ?_
  obtain ⟨qs_9, ts_9, bs_9, cn_9, hv9, hf⟩ := bd4_s hf
  refine jcNv (As := []) (rest := [.ref e0, .ref h]) (wr := [(h, .inr (3, [.null, .null]))]) (wc := [(e0, .inr (0, [.null, .null, .null, .int 0]))]) ⟨hx, hb, hml, hown, hts⟩ (zX0_init l G cI _ e0   hv9) ⟨va_cnB 0 hts gX3_init_X0_init_n9 rfl rfl rfl hK.2.2 w6 (by decide +kernel) ⟨Nat.le_of_ble_eq_true rfl, Nat.le_of_ble_eq_true rfl⟩, rfl, w7⟩ hK hP hD [1] [0] rfl rfl rfl (by decide) (by decide) (by decide) rfl hl.1 rfl (Nat.le_of_ble_eq_true rfl) dX3_init_9 ⟨Nat.le_of_ble_eq_true rfl, Nat.le_of_ble_eq_true rfl⟩ hS hA (fun u9 H locs hP hD hz9 hS => ?_)
  obtain ⟨a1, a2, a3⟩ := u9
  have hP : va_P G vwCl [(h, .inr (3, [.null, .null])), (e0, .inr (0, [.ref a1, .ref a2, .ref a3, .int cn_9])), (a1, .inl (cI, 32, .inl qs_9)), (a2, .inl (cI, 33, .inl ts_9)), (a3, .inl (cI, 33, .inl bs_9))] H := hP
  have hD : va_D A [(h, .inr (3, [.null, .null])), (e0, .inr (0, [.ref a1, .ref a2, .ref a3, .int cn_9])), (a1, .inl (cI, 32, .inl qs_9)), (a2, .inl (cI, 33, .inl ts_9)), (a3, .inl (cI, 33, .inl bs_9))] := hD
  refine va_putF (D := G) (ci := 3) (v := .ref e0) (ty := (.object "SternDesk$Expansion")) (C := RX3) (T := TX3) (N := 2) hx hb hts hinX3 tyX3 tyX3_ok nmX3 hown hK.1 hP hD hS 0 rfl rfl 0 (by decide) w8 (fun _ h9 => h9) rfl hin rfl (by decide +kernel) rfl rfl (Nat.le_of_ble_eq_true rfl) dX3_init_12 (fun H locs hP hD hS => ?_)
  have hP : va_P G vwCl [(h, .inr (3, [.ref e0, .null])), (e0, .inr (0, [.ref a1, .ref a2, .ref a3, .int cn_9])), (a1, .inl (cI, 32, .inl qs_9)), (a2, .inl (cI, 33, .inl ts_9)), (a3, .inl (cI, 33, .inl bs_9))] H := hP
  have hD : va_D A [(h, .inr (3, [.ref e0, .null])), (e0, .inr (0, [.ref a1, .ref a2, .ref a3, .int cn_9])), (a1, .inl (cI, 32, .inl qs_9)), (a2, .inl (cI, 33, .inl ts_9)), (a3, .inl (cI, 33, .inl bs_9))] := hD
  refine lv_aload_n hx hb dX3_init_15 rfl (lv_at hl 0 rfl) ?_
  refine va_new (ci := 2) (fs := [.null]) (C := RX2) (T := TX2) (N := 1) hx hb hts hinX2 tyX2 tyX2_ok hown w11 w12 w13 hK.1 hP hD hS hA rfl (fun j hj => by rcases (show j = 0 by omega) with rfl <;> rfl) (Nat.le_of_ble_eq_true rfl) (Nat.le_of_ble_eq_true rfl) dX3_init_16 (fun r0 H hP hD hS => ?_)
  have hP : va_P G vwCl [(h, .inr (3, [.ref e0, .null])), (e0, .inr (0, [.ref a1, .ref a2, .ref a3, .int cn_9])), (a1, .inl (cI, 32, .inl qs_9)), (a2, .inl (cI, 33, .inl ts_9)), (a3, .inl (cI, 33, .inl bs_9)), (r0, .inr (2, [.null]))] H := hP
  have hD : va_D A [(h, .inr (3, [.ref e0, .null])), (e0, .inr (0, [.ref a1, .ref a2, .ref a3, .int cn_9])), (a1, .inl (cI, 32, .inl qs_9)), (a2, .inl (cI, 33, .inl ts_9)), (a3, .inl (cI, 33, .inl bs_9)), (r0, .inr (2, [.null]))] := hD
  refine lv_dup hx hb dX3_init_19 rfl ?_
  obtain ⟨mo_20, hv20, hf⟩ := bd1_s hf
  refine jcIv (As := []) (rest := [.ref r0, .ref h]) (wr := [(h, .inr (3, [.ref e0, .null])), (e0, .inr (0, [.ref a1, .ref a2, .ref a3, .int cn_9])), (a1, .inl (cI, 32, .inl qs_9)), (a2, .inl (cI, 33, .inl ts_9)), (a3, .inl (cI, 33, .inl bs_9))]) (wc := [(r0, .inr (2, [.null]))]) ⟨hx, hb, hml, hown, hts⟩ (zX2_init l G cI _ r0   hv20) (cwI 0 hts gX3_init_X2_init rfl rfl rfl w13 w14 w15 rfl (by decide +kernel) ⟨Nat.le_of_ble_eq_true rfl, Nat.le_of_ble_eq_true rfl⟩) hK hP hD [5] [0, 1, 2, 3, 4] rfl rfl rfl (by decide) (by decide) (by decide) rfl hl.1 rfl (Nat.le_of_ble_eq_true rfl) dX3_init_20 ⟨Nat.le_of_ble_eq_true rfl, Nat.le_of_ble_eq_true rfl⟩ hS hA (fun u20 H locs hP hD hz20 hS => ?_)
  obtain ⟨a4, rfl⟩ : ∃ z, z = u20 := ⟨_, rfl⟩
  have hP : va_P G vwCl [(h, .inr (3, [.ref e0, .null])), (e0, .inr (0, [.ref a1, .ref a2, .ref a3, .int cn_9])), (a1, .inl (cI, 32, .inl qs_9)), (a2, .inl (cI, 33, .inl ts_9)), (a3, .inl (cI, 33, .inl bs_9)), (r0, .inr (2, [.ref a4])), (a4, .inl (cI, 201, .inl mo_20))] H := hP
  have hD : va_D A [(h, .inr (3, [.ref e0, .null])), (e0, .inr (0, [.ref a1, .ref a2, .ref a3, .int cn_9])), (a1, .inl (cI, 32, .inl qs_9)), (a2, .inl (cI, 33, .inl ts_9)), (a3, .inl (cI, 33, .inl bs_9)), (r0, .inr (2, [.ref a4])), (a4, .inl (cI, 201, .inl mo_20))] := hD
  refine va_putF (D := G) (ci := 3) (v := .ref r0) (ty := (.object "SternDesk$Rows")) (C := RX3) (T := TX3) (N := 2) hx hb hts hinX3 tyX3 tyX3_ok nmX3 hown hK.1 hP hD hS 0 rfl rfl 1 (by decide) w16 (fun _ h9 => h9) rfl hin rfl (by decide +kernel) rfl rfl (Nat.le_of_ble_eq_true rfl) dX3_init_23 (fun H locs hP hD hS => ?_)
  have hP : va_P G vwCl [(h, .inr (3, [.ref e0, .ref r0])), (e0, .inr (0, [.ref a1, .ref a2, .ref a3, .int cn_9])), (a1, .inl (cI, 32, .inl qs_9)), (a2, .inl (cI, 33, .inl ts_9)), (a3, .inl (cI, 33, .inl bs_9)), (r0, .inr (2, [.ref a4])), (a4, .inl (cI, 201, .inl mo_20))] H := hP
  have hD : va_D A [(h, .inr (3, [.ref e0, .ref r0])), (e0, .inr (0, [.ref a1, .ref a2, .ref a3, .int cn_9])), (a1, .inl (cI, 32, .inl qs_9)), (a2, .inl (cI, 33, .inl ts_9)), (a3, .inl (cI, 33, .inl bs_9)), (r0, .inr (2, [.ref a4])), (a4, .inl (cI, 201, .inl mo_20))] := hD
  refine lv_aload_n hx hb dX3_init_26 rfl (lv_at hl 0 rfl) ?_
  refine va_get (D := G) (ci := 3) (v := .ref e0) (C := RX3) (T := TX3) (N := 2) hx hb hts hinX3 hown hK.1 hP 0 rfl rfl 0 (by decide) w8 (fun _ h9 => h9) rfl dX3_init_27 ?_
  refine lv_iconst (v := 1) hx hb dX3_init_30 (by decide) ?_
  refine lv_iconst (v := 1) hx hb dX3_init_31 (by decide) ?_
  obtain ⟨qs_32, ts_32, bs_32, cn_32, hv32, hf⟩ := bd4_s hf
  refine mcVv (As := [.int 1, .int 1]) (rest := []) (wr := [(h, .inr (3, [.ref e0, .ref r0])), (r0, .inr (2, [.ref a4])), (a4, .inl (cI, 201, .inl mo_20))]) (wc := [(e0, .inr (0, [.ref a1, .ref a2, .ref a3, .int cn_9])), (a1, .inl (cI, 32, .inl qs_9)), (a2, .inl (cI, 33, .inl ts_9)), (a3, .inl (cI, 33, .inl bs_9))]) ⟨hx, hb, hml, hown, hts⟩ (zX0_expand l G cI _ e0 a1 a2 a3 qs_9 ts_9 bs_9 cn_9 1 1 hv32) (cwV 2 hts gX3_init_X0_expand rfl rfl rfl (by decide +kernel) ⟨Nat.le_of_ble_eq_true rfl, Nat.le_of_ble_eq_true rfl⟩) hK hP hD [1, 2, 3, 4] [0, 5, 6] rfl rfl rfl (by decide) (by decide) (by decide) rfl rfl rfl hl.1 rfl (Nat.le_of_ble_eq_true rfl) dX3_init_32 ⟨Nat.le_of_ble_eq_true rfl, Nat.le_of_ble_eq_true rfl⟩ hS hA (fun H locs hP hD hz32 hS => ?_)
  have hP : va_P G vwCl [(h, .inr (3, [.ref e0, .ref r0])), (e0, .inr (0, [.ref a1, .ref a2, .ref a3, .int cn_32])), (a1, .inl (cI, 32, .inl qs_32)), (a2, .inl (cI, 33, .inl ts_32)), (a3, .inl (cI, 33, .inl bs_32)), (r0, .inr (2, [.ref a4])), (a4, .inl (cI, 201, .inl mo_20))] H := hP.sub [0, 3, 4, 5, 6, 1, 2] rfl
  have hD : va_D A [(h, .inr (3, [.ref e0, .ref r0])), (e0, .inr (0, [.ref a1, .ref a2, .ref a3, .int cn_32])), (a1, .inl (cI, 32, .inl qs_32)), (a2, .inl (cI, 33, .inl ts_32)), (a3, .inl (cI, 33, .inl bs_32)), (r0, .inr (2, [.ref a4])), (a4, .inl (cI, 201, .inl mo_20))] := hD.sub [0, 3, 4, 5, 6, 1, 2] (by decide) rfl
  refine qf_s (Qf := Qf) hf ?_
  refine W.widen (k := 6) (n := 304) (Nat.le_of_ble_eq_true rfl) (Nat.le_of_ble_eq_true rfl) ?_
  have hP9 : va_P G vwCl [(h, .inr (3, [.ref e0, .ref r0])), (e0, .inr (0, [.ref a1, .ref a2, .ref a3, .int cn_32])), (a1, .inl (cI, 32, .inl qs_32)), (a2, .inl (cI, 33, .inl ts_32)), (a3, .inl (cI, 33, .inl bs_32)), (r0, .inr (2, [.ref a4])), (a4, .inl (cI, 201, .inl mo_20))] _ := hP.sub [0, 1, 2, 3, 4, 5, 6] rfl
  have hD9 : va_D A [(h, .inr (3, [.ref e0, .ref r0])), (e0, .inr (0, [.ref a1, .ref a2, .ref a3, .int cn_32])), (a1, .inl (cI, 32, .inl qs_32)), (a2, .inl (cI, 33, .inl ts_32)), (a3, .inl (cI, 33, .inl bs_32)), (r0, .inr (2, [.ref a4])), (a4, .inl (cI, 201, .inl mo_20))] := hD.sub [0, 1, 2, 3, 4, 5, 6] (by decide) rfl
  rw [hQf]
  exact W.vret hx hb hr (fun t ht hW => ⟨⟨(e0, a1, a2, a3, r0, a4), rfl, trivial, by rw [ht]; exact hP9, hD9⟩, hS.F ht⟩) hS.2.2 dX3_init_35

def fX3_sumOfFloors_J98 (k6 : Int64 → Int64 → Int64 → Int64 → Int64 → Int32 → Option (Int64)) (x0 : Int64) (x2 : Int64) (x4 : Int64) (x8 : Int64) (x10 : Int32) (y0 : Int64) : Option (Int64) :=
  nm (x10 + 1) fun v100 =>
  k6 x0 x2 x4 y0 x8 v100
def fX3_sumOfFloors_B6 (k6 : Int64 → Int64 → Int64 → Int64 → Int64 → Int32 → Option (Int64)) (x0 : Int64) (x2 : Int64) (x4 : Int64) (x6 : Int64) (x8 : Int64) (x10 : Int32) : Option (Int64) :=
  if 64 ≤ x10 then
    some x8
  else
    if (lg_cmp x6 0) ≤ 0 then
      some x8
    else
      ckL 2 <|
      ckL x6 <|
      ckL x6 <|
      nm (x8 + ((((x0 * (x0 - 1)) / 2) * (x2 / x6)) + (x0 * (x4 / x6)))) fun v45 =>
      ckL x6 <|
      nm (x2 - x2 / x6 * x6) fun v51 =>
      ckL x6 <|
      nm (x4 - x4 / x6 * x6) fun v57 =>
      nm ((v51 * x0) + v57) fun v65 =>
      ckL x6 <|
      nm (v65 / x6) fun v72 =>
      ckL x6 <|
      nm (v65 - v65 / x6 * x6) fun v78 =>
      if (lg_cmp v72 0) = 0 then
        fX3_sumOfFloors_J98 k6  v72 x6 v78 v45 x10 0
      else
        fX3_sumOfFloors_J98 k6  v72 x6 v78 v45 x10 v51
def fX3_sumOfFloors_L6 : Nat → Int64 → Int64 → Int64 → Int64 → Int64 → Int32 → Option (Int64)
  | 0, _, _, _, _, _, _ => none
  | n + 1, x0, x2, x4, x6, x8, x10 => fX3_sumOfFloors_B6 (fX3_sumOfFloors_L6   n)  x0 x2 x4 x6 x8 x10
def fX3_sumOfFloors (p0 : Int64) (p2 : Int64) (p4 : Int64) (p6 : Int64) : Option (Int64) :=
  fX3_sumOfFloors_L6   FU p0 p2 p4 p6 0 0
set_option maxHeartbeats 4000000 in
set_option maxRecDepth 100000 in
theorem zX3_sumOfFloors (l : Launch) (G : va_G) (cI : ClassId) (sz : Nat) (p0 : Int64) (p2 : Int64) (p4 : Int64) (p6 : Int64) {rv : Int64} (hf : fX3_sumOfFloors p0 p2 p4 p6 = some rv) : mRl l yX3_sumOfFloors wsX3_sumOfFloors ({ frames := 0, cells := 0, slots := 0, locals := 0 }) [.long p0, .long p2, .long p4, .long p6] G cI [] sz rv := by
  refine Met.ofW (cc := cX3_sumOfFloors) (maxL := 15) (ret := (some .long)) (by decide) rfl ?_
  intro p e s m args below meth c s₁ B hml hv
  obtain ⟨rfl, hsz, hP, hK⟩ := hv
  have hx := B.exec
  have hb := B.bytes
  have hr := B.returns
  have hts := atoms_spec (ws := wsX3_sumOfFloors) B.pre
  have hown : s.vm.findClass RX3 = some m.cls := findClass_of_methodNamed B.named
  have hlocks := B.notSynchronized
  subst hsz
  generalize hAe : va_A [] s.heap.size = A
  have hA : ∀ q : Nat, s.heap.size ≤ q → A q := fun q h => by rw [← hAe]; exact Or.inr h
  have hS : va_S A s.heap s.heap [] := va_S.rf
  have w0 := hts (.constantLong RX3 132 (2)) (by decide +kernel)
  obtain ⟨Qf, hQf⟩ : ∃ f : Int64 → State → Prop, f = fun z => MQ below (va_Ql (fun (r : Int64) (_ : Unit) => r = z) (fun _ _ => True) A) ([.long p0, .long p2, .long p4, .long p6].toArray) s 0 0 A := ⟨_, rfl⟩
  suffices hgo : W p l e (headSpec wsX3_sumOfFloors ({ frames := 0, cells := 0, slots := 0, locals := 0 })).room s m ([.long p0, .long p2, .long p4, .long p6].toArray) below meth c s.heap [] 0 0 (Qf rv) (entryFrame m ([.long p0, .long p2, .long p4, .long p6].toArray) 15) by rw [hQf] at hgo; exact hgo
  have J98 : ∀ (k6 : Int64 → Int64 → Int64 → Int64 → Int64 → Int32 → Option (Int64)) (hk6 : ∀ (x0 : Int64) (x2 : Int64) (x4 : Int64) (x6 : Int64) (x8 : Int64) (x10 : Int32) (H : Heap) (locs : List Loc) (ls : Array Slot), k6 x0 x2 x4 x6 x8 x10 = some rv → va_P G vwCl [] H → va_S A s.heap H locs → lv_has ls 15 [(0, .long x0), (2, .long x2), (4, .long x4), (6, .long x6), (8, .long x8), (10, .int x10)] → W p l e (headSpec wsX3_sumOfFloors ({ frames := 0, cells := 0, slots := 0, locals := 0 })).room s m ([.long p0, .long p2, .long p4, .long p6].toArray) below meth c H locs 0 0 (Qf rv) (F0 m 6 ls [])) (x0 : Int64) (x2 : Int64) (x4 : Int64) (x8 : Int64) (x10 : Int32) (y0 : Int64) (H : Heap) (locs : List Loc) (ls : Array Slot), fX3_sumOfFloors_J98 k6  x0 x2 x4 x8 x10 y0 = some rv → va_P G vwCl [] H → va_S A s.heap H locs → lv_has ls 15 [(0, .long x0), (2, .long x2), (4, .long x4), (8, .long x8), (10, .int x10)] → W p l e (headSpec wsX3_sumOfFloors ({ frames := 0, cells := 0, slots := 0, locals := 0 })).room s m ([.long p0, .long p2, .long p4, .long p6].toArray) below meth c H locs 0 0 (Qf rv) (F0 m 98 ls [.long y0]) := by
    intro k6 hk6  x0 x2 x4 x8 x10 y0 H locs ls hf hP hS hl
    unfold fX3_sumOfFloors_J98 at hf
    refine lv_lstore (lv' := [(6, .long y0), (0, .long x0), (2, .long x2), (4, .long x4), (8, .long x8), (10, .int x10)]) hx hb dX3_sumOfFloors_98 hl (by decide) rfl (fun ls hl => ?_)
    obtain ⟨v100, ev100⟩ : ∃ y : Int32, y = x10 + 1 := ⟨_, rfl⟩
    have hf := nm_s ev100 hf
    refine lv_iinc (v := v100) (lv' := [(10, .int v100), (6, .long y0), (0, .long x0), (2, .long x2), (4, .long x4), (8, .long x8)]) hx hb dX3_sumOfFloors_100 hl (k := 5) rfl (by rw [ev100]; rfl) (by decide) rfl (fun ls hl => ?_)
    refine lv_goto (tgt := 6) hx hb dX3_sumOfFloors_103 (by decide) ?_
    exact hk6  x0 x2 x4 y0 x8 v100 _ _ _ hf hP hS (lv_sub hl [2, 3, 4, 1, 5, 0] rfl)
  have B6 : ∀ (k6 : Int64 → Int64 → Int64 → Int64 → Int64 → Int32 → Option (Int64)) (hk6 : ∀ (x0 : Int64) (x2 : Int64) (x4 : Int64) (x6 : Int64) (x8 : Int64) (x10 : Int32) (H : Heap) (locs : List Loc) (ls : Array Slot), k6 x0 x2 x4 x6 x8 x10 = some rv → va_P G vwCl [] H → va_S A s.heap H locs → lv_has ls 15 [(0, .long x0), (2, .long x2), (4, .long x4), (6, .long x6), (8, .long x8), (10, .int x10)] → W p l e (headSpec wsX3_sumOfFloors ({ frames := 0, cells := 0, slots := 0, locals := 0 })).room s m ([.long p0, .long p2, .long p4, .long p6].toArray) below meth c H locs 0 0 (Qf rv) (F0 m 6 ls [])) (x0 : Int64) (x2 : Int64) (x4 : Int64) (x6 : Int64) (x8 : Int64) (x10 : Int32) (H : Heap) (locs : List Loc) (ls : Array Slot), fX3_sumOfFloors_B6 k6  x0 x2 x4 x6 x8 x10 = some rv → va_P G vwCl [] H → va_S A s.heap H locs → lv_has ls 15 [(0, .long x0), (2, .long x2), (4, .long x4), (6, .long x6), (8, .long x8), (10, .int x10)] → W p l e (headSpec wsX3_sumOfFloors ({ frames := 0, cells := 0, slots := 0, locals := 0 })).room s m ([.long p0, .long p2, .long p4, .long p6].toArray) below meth c H locs 0 0 (Qf rv) (F0 m 6 ls []) := by
    intro k6 hk6  x0 x2 x4 x6 x8 x10 H locs ls hf hP hS hl
    unfold fX3_sumOfFloors_B6 at hf
    refine lv_iload hx hb dX3_sumOfFloors_6 (lv_at hl 5 rfl) ?_
    refine lv_bipush (v := 64) hx hb dX3_sumOfFloors_8 (by decide) ?_
    refine lv_icmp_ge (tgt := 106) hx hb dX3_sumOfFloors_10 (by decide) (fun c10 => ?_) (fun c10 => ?_)
    · have hf := it_t c10 hf
      refine lv_lload hx hb dX3_sumOfFloors_106 (lv_at hl 4 rfl) ?_
      refine qf_s (Qf := Qf) hf ?_
      rw [hQf]
      exact W.lret hx hb hr (fun t ht hW => ⟨⟨_, (), rfl, rfl, trivial⟩, hS.F ht⟩) hS.2.2 dX3_sumOfFloors_108
    · have hf := it_f c10 hf
      refine lv_lload hx hb dX3_sumOfFloors_13 (lv_at hl 3 rfl) ?_
      refine lv_lconst (v := 0) hx hb dX3_sumOfFloors_15 (by decide) ?_
      refine W.lcmp hx hb dX3_sumOfFloors_16 ?_
      refine lv_if_le (tgt := 106) hx hb dX3_sumOfFloors_17 (by decide) (fun c17 => ?_) (fun c17 => ?_)
      · have hf := it_t c17 hf
        refine lv_lload hx hb dX3_sumOfFloors_106 (lv_at hl 4 rfl) ?_
        refine qf_s (Qf := Qf) hf ?_
        rw [hQf]
        exact W.lret hx hb hr (fun t ht hW => ⟨⟨_, (), rfl, rfl, trivial⟩, hS.F ht⟩) hS.2.2 dX3_sumOfFloors_108
      · have hf := it_f c17 hf
        refine lv_lload hx hb dX3_sumOfFloors_20 (lv_at hl 4 rfl) ?_
        refine lv_lload_n hx hb dX3_sumOfFloors_22 rfl (lv_at hl 0 rfl) ?_
        refine lv_lload_n hx hb dX3_sumOfFloors_23 rfl (lv_at hl 0 rfl) ?_
        refine lv_lconst (v := 1) hx hb dX3_sumOfFloors_24 (by decide) ?_
        refine lv_lsub hx hb dX3_sumOfFloors_25 ?_
        refine lv_lmul hx hb dX3_sumOfFloors_26 ?_
        refine lv_ldc2 hx hb hown w0 dX3_sumOfFloors_27 ?_
        obtain ⟨hz30, hf⟩ := ckL_s hf
        refine lv_ldiv hx hb dX3_sumOfFloors_30 hz30 ?_
        refine lv_lload_n hx hb dX3_sumOfFloors_31 rfl (lv_at hl 1 rfl) ?_
        refine lv_lload hx hb dX3_sumOfFloors_32 (lv_at hl 3 rfl) ?_
        obtain ⟨hz34, hf⟩ := ckL_s hf
        refine lv_ldiv hx hb dX3_sumOfFloors_34 hz34 ?_
        refine lv_lmul hx hb dX3_sumOfFloors_35 ?_
        refine lv_lload_n hx hb dX3_sumOfFloors_36 rfl (lv_at hl 0 rfl) ?_
        refine lv_lload hx hb dX3_sumOfFloors_37 (lv_at hl 2 rfl) ?_
        refine lv_lload hx hb dX3_sumOfFloors_39 (lv_at hl 3 rfl) ?_
        obtain ⟨hz41, hf⟩ := ckL_s hf
        refine lv_ldiv hx hb dX3_sumOfFloors_41 hz41 ?_
        refine lv_lmul hx hb dX3_sumOfFloors_42 ?_
        refine lv_ladd hx hb dX3_sumOfFloors_43 ?_
        refine lv_ladd hx hb dX3_sumOfFloors_44 ?_
        refine lv_topl (fun v45 ev45 => ?_)
        have hf := nm_s ev45 hf
        refine lv_lstore (lv' := [(8, .long v45), (0, .long x0), (2, .long x2), (4, .long x4), (6, .long x6), (10, .int x10)]) hx hb dX3_sumOfFloors_45 hl (by decide) rfl (fun ls hl => ?_)
        refine lv_lload_n hx hb dX3_sumOfFloors_47 rfl (lv_at hl 2 rfl) ?_
        refine lv_lload hx hb dX3_sumOfFloors_48 (lv_at hl 4 rfl) ?_
        obtain ⟨hz50, hf⟩ := ckL_s hf
        refine lv_lrem hx hb dX3_sumOfFloors_50 hz50 ?_
        refine lv_topl (fun v51 ev51 => ?_)
        have hf := nm_s ev51 hf
        refine lv_lstore_n (lv' := [(2, .long v51), (8, .long v45), (0, .long x0), (4, .long x4), (6, .long x6), (10, .int x10)]) hx hb dX3_sumOfFloors_51 rfl hl (by decide) rfl (fun ls hl => ?_)
        refine lv_lload hx hb dX3_sumOfFloors_52 (lv_at hl 3 rfl) ?_
        refine lv_lload hx hb dX3_sumOfFloors_54 (lv_at hl 4 rfl) ?_
        obtain ⟨hz56, hf⟩ := ckL_s hf
        refine lv_lrem hx hb dX3_sumOfFloors_56 hz56 ?_
        refine lv_topl (fun v57 ev57 => ?_)
        have hf := nm_s ev57 hf
        refine lv_lstore (lv' := [(4, .long v57), (2, .long v51), (8, .long v45), (0, .long x0), (6, .long x6), (10, .int x10)]) hx hb dX3_sumOfFloors_57 hl (by decide) rfl (fun ls hl => ?_)
        refine lv_lload_n hx hb dX3_sumOfFloors_59 rfl (lv_at hl 1 rfl) ?_
        refine lv_lload_n hx hb dX3_sumOfFloors_60 rfl (lv_at hl 3 rfl) ?_
        refine lv_lmul hx hb dX3_sumOfFloors_61 ?_
        refine lv_lload hx hb dX3_sumOfFloors_62 (lv_at hl 0 rfl) ?_
        refine lv_ladd hx hb dX3_sumOfFloors_64 ?_
        refine lv_topl (fun v65 ev65 => ?_)
        have hf := nm_s ev65 hf
        refine lv_lstore (lv' := [(11, .long v65), (4, .long v57), (2, .long v51), (8, .long v45), (0, .long x0), (6, .long x6), (10, .int x10)]) hx hb dX3_sumOfFloors_65 hl (by decide) rfl (fun ls hl => ?_)
        refine lv_lload hx hb dX3_sumOfFloors_67 (lv_at hl 0 rfl) ?_
        refine lv_lload hx hb dX3_sumOfFloors_69 (lv_at hl 5 rfl) ?_
        obtain ⟨hz71, hf⟩ := ckL_s hf
        refine lv_ldiv hx hb dX3_sumOfFloors_71 hz71 ?_
        refine lv_topl (fun v72 ev72 => ?_)
        have hf := nm_s ev72 hf
        refine lv_lstore_n (lv' := [(0, .long v72), (11, .long v65), (4, .long v57), (2, .long v51), (8, .long v45), (6, .long x6), (10, .int x10)]) hx hb dX3_sumOfFloors_72 rfl hl (by decide) rfl (fun ls hl => ?_)
        refine lv_lload hx hb dX3_sumOfFloors_73 (lv_at hl 1 rfl) ?_
        refine lv_lload hx hb dX3_sumOfFloors_75 (lv_at hl 5 rfl) ?_
        obtain ⟨hz77, hf⟩ := ckL_s hf
        refine lv_lrem hx hb dX3_sumOfFloors_77 hz77 ?_
        refine lv_topl (fun v78 ev78 => ?_)
        have hf := nm_s ev78 hf
        refine lv_lstore (lv' := [(4, .long v78), (0, .long v72), (11, .long v65), (2, .long v51), (8, .long v45), (6, .long x6), (10, .int x10)]) hx hb dX3_sumOfFloors_78 hl (by decide) rfl (fun ls hl => ?_)
        refine lv_lload_n hx hb dX3_sumOfFloors_80 rfl (lv_at hl 3 rfl) ?_
        refine lv_lstore (lv' := [(13, .long v51), (4, .long v78), (0, .long v72), (11, .long v65), (2, .long v51), (8, .long v45), (6, .long x6), (10, .int x10)]) hx hb dX3_sumOfFloors_81 hl (by decide) rfl (fun ls hl => ?_)
        refine lv_lload hx hb dX3_sumOfFloors_83 (lv_at hl 6 rfl) ?_
        refine lv_lstore_n (lv' := [(2, .long x6), (13, .long v51), (4, .long v78), (0, .long v72), (11, .long v65), (8, .long v45), (6, .long x6), (10, .int x10)]) hx hb dX3_sumOfFloors_85 rfl hl (by decide) rfl (fun ls hl => ?_)
        refine lv_lload_n hx hb dX3_sumOfFloors_86 rfl (lv_at hl 3 rfl) ?_
        refine lv_lconst (v := 0) hx hb dX3_sumOfFloors_87 (by decide) ?_
        refine W.lcmp hx hb dX3_sumOfFloors_88 ?_
        refine lv_if_ne (tgt := 96) hx hb dX3_sumOfFloors_89 (by decide) (fun c89 => ?_) (fun c89 => ?_)
        · have hf := it_f c89 hf
          refine lv_lload hx hb dX3_sumOfFloors_96 (lv_at hl 1 rfl) ?_
          exact J98 k6 hk6  v72 x6 v78 v45 x10 v51 _ _ _ hf hP hS (lv_sub hl [3, 0, 2, 5, 7] rfl)
        · have hf := it_t c89 hf
          refine lv_lconst (v := 0) hx hb dX3_sumOfFloors_92 (by decide) ?_
          refine lv_goto (tgt := 98) hx hb dX3_sumOfFloors_93 (by decide) ?_
          exact J98 k6 hk6  v72 x6 v78 v45 x10 0 _ _ _ hf hP hS (lv_sub hl [3, 0, 2, 5, 7] rfl)
  have L6 : ∀ (fu : Nat) (x0 : Int64) (x2 : Int64) (x4 : Int64) (x6 : Int64) (x8 : Int64) (x10 : Int32) (H : Heap) (locs : List Loc) (ls : Array Slot), fX3_sumOfFloors_L6   fu x0 x2 x4 x6 x8 x10 = some rv → va_P G vwCl [] H → va_S A s.heap H locs → lv_has ls 15 [(0, .long x0), (2, .long x2), (4, .long x4), (6, .long x6), (8, .long x8), (10, .int x10)] → W p l e (headSpec wsX3_sumOfFloors ({ frames := 0, cells := 0, slots := 0, locals := 0 })).room s m ([.long p0, .long p2, .long p4, .long p6].toArray) below meth c H locs 0 0 (Qf rv) (F0 m 6 ls []) := by
    intro  fu
    induction fu with
    | zero => intro  x0 x2 x4 x6 x8 x10 H locs ls hf; cases hf
    | succ fu ih => intro  x0 x2 x4 x6 x8 x10 H locs ls hf hP hS hl; exact B6 (fX3_sumOfFloors_L6   fu) ih  x0 x2 x4 x6 x8 x10 _ _ _ hf hP hS hl
  have hl := lv_entry ([.long p0, .long p2, .long p4, .long p6]) (n := 15) (Nat.le_of_ble_eq_true rfl)
  rw [lg_entry_eq]
  generalize (lg_sl ([.long p0, .long p2, .long p4, .long p6]) ++ List.replicate (15 - (lg_sl ([.long p0, .long p2, .long p4, .long p6])).length) Slot.unset).toArray = ls at hl ⊢
  have hl : lv_has ls 15 [(0, .long p0), (2, .long p2), (4, .long p4), (6, .long p6)] := hl
  unfold fX3_sumOfFloors at hf
  refine lv_lconst (v := 0) hx hb dX3_sumOfFloors_0 (by decide) ?_
  refine lv_lstore (lv' := [(8, .long 0), (0, .long p0), (2, .long p2), (4, .long p4), (6, .long p6)]) hx hb dX3_sumOfFloors_1 hl (by decide) rfl (fun ls hl => ?_)
  refine lv_iconst (v := 0) hx hb dX3_sumOfFloors_3 (by decide) ?_
  refine lv_istore (lv' := [(10, .int 0), (8, .long 0), (0, .long p0), (2, .long p2), (4, .long p4), (6, .long p6)]) hx hb dX3_sumOfFloors_4 hl (by decide) rfl (fun ls hl => ?_)
  exact L6  FU  p0 p2 p4 p6 0 0 _ _ _ hf hP hS (lv_sub hl [2, 3, 4, 5, 1, 0] rfl)
def fX2_countInside_J42 (k9 : Int32 → Int32 → Int32 → Int64 → Int32 → Int32 → Option (Int32)) (mo : Nat → Int32) (x1 : Int32) (x2 : Int32) (x3 : Int32) (x4 : Int64) (x6 : Int32) (x7 : Int32) (x8 : Int32) (y0 : Int32) : Option (Int32) :=
  ckI y0 201 <|
  ckI (x6 - 1) 201 <|
  bd1 (fX3_sumOfFloors (Int32.toInt64 x8) (Int32.toInt64 x2) (Int32.toInt64 (x2 - 1)) (Int32.toInt64 x3)) fun r75 =>
  nm (x4 + ((Int32.toInt64 ((mo (Int32.toNatClampNeg y0)) - (mo (Int32.toNatClampNeg (x6 - 1))))) * r75)) fun v80 =>
  nm (y0 + 1) fun v86 =>
  nm (x7 + 1) fun v88 =>
  k9 x1 x2 x3 v80 v86 v88
def fX2_countInside_B9 (k9 : Int32 → Int32 → Int32 → Int64 → Int32 → Int32 → Option (Int32)) (mo : Nat → Int32) (x1 : Int32) (x2 : Int32) (x3 : Int32) (x4 : Int64) (x6 : Int32) (x7 : Int32) : Option (Int32) :=
  if 200 ≤ x7 then
    some (Int64.toInt32 x4)
  else
    if x1 < x6 then
      some (Int64.toInt32 x4)
    else
      ckZ x6 <|
      nm (x1 / x6) fun v27 =>
      if v27 ≤ 0 then
        fX2_countInside_J42 k9 mo x1 x2 x3 x4 x6 x7 v27 x1
      else
        ckZ v27 <|
        fX2_countInside_J42 k9 mo x1 x2 x3 x4 x6 x7 v27 (x1 / v27)
def fX2_countInside_L9 (mo : Nat → Int32) : Nat → Int32 → Int32 → Int32 → Int64 → Int32 → Int32 → Option (Int32)
  | 0, _, _, _, _, _, _ => none
  | n + 1, x1, x2, x3, x4, x6, x7 => fX2_countInside_B9 (fX2_countInside_L9  mo n) mo x1 x2 x3 x4 x6 x7
def fX2_countInside (mo : Nat → Int32) (p1 : Int32) (p2 : Int32) (p3 : Int32) : Option (Int32) :=
  fX2_countInside_L9  mo FU p1 p2 p3 0 1 0
set_option maxHeartbeats 4000000 in
set_option maxRecDepth 100000 in
theorem zX2_countInside (l : Launch) (G : va_G) (cI : ClassId) (sz : Nat) (h a4 : Nat) (mo : Nat → Int32) (p1 : Int32) (p2 : Int32) (p3 : Int32) {rv : Int32} (hf : fX2_countInside mo p1 p2 p3 = some rv) : mRi l yX2_countInside wsX2_countInside ({ frames := 1, cells := 0, slots := 0, locals := 34 }) [.ref h, .int p1, .int p2, .int p3] G cI [(h, .inr (2, [.ref a4])), (a4, .inl (cI, 201, .inl mo))] sz rv := by
  refine Met.ofW (cc := cX2_countInside) (maxL := 10) (ret := (some .int)) (by decide) rfl ?_
  intro p e s m args below meth c s₁ B hml hv
  obtain ⟨rfl, hsz, hP, hK⟩ := hv
  have hx := B.exec
  have hb := B.bytes
  have hr := B.returns
  have hts := atoms_spec (ws := wsX2_countInside) B.pre
  have hown : s.vm.findClass RX2 = some m.cls := findClass_of_methodNamed B.named
  have hlocks := B.notSynchronized
  subst hsz
  generalize hAe : va_A [] s.heap.size = A
  have hA : ∀ q : Nat, s.heap.size ≤ q → A q := fun q h => by rw [← hAe]; exact Or.inr h
  have hS : va_S A s.heap s.heap [] := va_S.rf
  have w0 := hts (.fieldLink RX2 9 "SternDesk$Rows" "moebiusSums" "[I") (by decide +kernel)
  have hinX2 : ∀ w ∈ u_ws RX2 TX2 1, w ∈ wsX2_countInside := by decide +kernel
  have w2 := hts (.initialized RX3) (by decide +kernel)
  have w3 := hts (.static yX3_sumOfFloors) (by decide +kernel)
  obtain ⟨Qf, hQf⟩ : ∃ f : Int32 → State → Prop, f = fun z => MQ below (va_Qi (fun (r : Int32) (_ : Unit) => r = z) (fun _ _ => True) A) ([.ref h, .int p1, .int p2, .int p3].toArray) s 0 0 A := ⟨_, rfl⟩
  suffices hgo : W p l e (headSpec wsX2_countInside ({ frames := 1, cells := 0, slots := 0, locals := 34 })).room s m ([.ref h, .int p1, .int p2, .int p3].toArray) below meth c s.heap [] 0 0 (Qf rv) (entryFrame m ([.ref h, .int p1, .int p2, .int p3].toArray) 10) by rw [hQf] at hgo; exact hgo
  have J42 : ∀ (k9 : Int32 → Int32 → Int32 → Int64 → Int32 → Int32 → Option (Int32)) (hk9 : ∀ (x1 : Int32) (x2 : Int32) (x3 : Int32) (x4 : Int64) (x6 : Int32) (x7 : Int32) (H : Heap) (locs : List Loc) (ls : Array Slot), k9 x1 x2 x3 x4 x6 x7 = some rv → va_P G vwCl [(h, .inr (2, [.ref a4])), (a4, .inl (cI, 201, .inl mo))] H → va_S A s.heap H locs → lv_has ls 10 [(0, .ref h), (1, .int x1), (2, .int x2), (3, .int x3), (4, .long x4), (6, .int x6), (7, .int x7)] → W p l e (headSpec wsX2_countInside ({ frames := 1, cells := 0, slots := 0, locals := 34 })).room s m ([.ref h, .int p1, .int p2, .int p3].toArray) below meth c H locs 0 0 (Qf rv) (F0 m 9 ls [])) (x1 : Int32) (x2 : Int32) (x3 : Int32) (x4 : Int64) (x6 : Int32) (x7 : Int32) (x8 : Int32) (y0 : Int32) (H : Heap) (locs : List Loc) (ls : Array Slot), fX2_countInside_J42 k9 mo x1 x2 x3 x4 x6 x7 x8 y0 = some rv → va_P G vwCl [(h, .inr (2, [.ref a4])), (a4, .inl (cI, 201, .inl mo))] H → va_S A s.heap H locs → lv_has ls 10 [(0, .ref h), (1, .int x1), (2, .int x2), (3, .int x3), (4, .long x4), (6, .int x6), (7, .int x7), (8, .int x8)] → W p l e (headSpec wsX2_countInside ({ frames := 1, cells := 0, slots := 0, locals := 34 })).room s m ([.ref h, .int p1, .int p2, .int p3].toArray) below meth c H locs 0 0 (Qf rv) (F0 m 42 ls [.int y0]) := by
    intro k9 hk9  x1 x2 x3 x4 x6 x7 x8 y0 H locs ls hf hP hS hl
    unfold fX2_countInside_J42 at hf
    refine lv_istore (lv' := [(9, .int y0), (0, .ref h), (1, .int x1), (2, .int x2), (3, .int x3), (4, .long x4), (6, .int x6), (7, .int x7), (8, .int x8)]) hx hb dX2_countInside_42 hl (by decide) rfl (fun ls hl => ?_)
    refine lv_lload hx hb dX2_countInside_44 (lv_at hl 5 rfl) ?_
    refine lv_aload_n hx hb dX2_countInside_46 rfl (lv_at hl 1 rfl) ?_
    refine va_get (D := G) (ci := 2) (v := .ref a4) (C := RX2) (T := TX2) (N := 1) hx hb hts hinX2 hown hK.1 hP 0 rfl rfl 0 (by decide) w0 (fun _ h9 => h9) rfl dX2_countInside_47 ?_
    refine lv_iload hx hb dX2_countInside_50 (lv_at hl 0 rfl) ?_
    obtain ⟨hi52, hf⟩ := ckI_s hf
    refine va_iald hx hb hK.1 hP 1 0 rfl rfl hi52 dX2_countInside_52 ?_
    refine lv_aload_n hx hb dX2_countInside_53 rfl (lv_at hl 1 rfl) ?_
    refine va_get (D := G) (ci := 2) (v := .ref a4) (C := RX2) (T := TX2) (N := 1) hx hb hts hinX2 hown hK.1 hP 0 rfl rfl 0 (by decide) w0 (fun _ h9 => h9) rfl dX2_countInside_54 ?_
    refine lv_iload hx hb dX2_countInside_57 (lv_at hl 6 rfl) ?_
    refine lv_iconst (v := 1) hx hb dX2_countInside_59 (by decide) ?_
    refine lv_isub hx hb dX2_countInside_60 ?_
    obtain ⟨hi61, hf⟩ := ckI_s hf
    refine va_iald hx hb hK.1 hP 1 0 rfl rfl hi61 dX2_countInside_61 ?_
    refine lv_isub hx hb dX2_countInside_62 ?_
    refine lv_i2l hx hb dX2_countInside_63 rfl ?_
    refine lv_iload hx hb dX2_countInside_64 (lv_at hl 8 rfl) ?_
    refine lv_i2l hx hb dX2_countInside_66 rfl ?_
    refine lv_iload_n hx hb dX2_countInside_67 rfl (lv_at hl 3 rfl) ?_
    refine lv_i2l hx hb dX2_countInside_68 rfl ?_
    refine lv_iload_n hx hb dX2_countInside_69 rfl (lv_at hl 3 rfl) ?_
    refine lv_iconst (v := 1) hx hb dX2_countInside_70 (by decide) ?_
    refine lv_isub hx hb dX2_countInside_71 ?_
    refine lv_i2l hx hb dX2_countInside_72 rfl ?_
    refine lv_iload_n hx hb dX2_countInside_73 rfl (lv_at hl 4 rfl) ?_
    refine lv_i2l hx hb dX2_countInside_74 rfl ?_
    obtain ⟨r75, hv75, hf⟩ := bd1_s hf
    refine roNl (As := [.long (Int32.toInt64 x8), .long (Int32.toInt64 x2), .long (Int32.toInt64 (x2 - 1)), .long (Int32.toInt64 x3)]) (rest := [.long (Int32.toInt64 ((mo (Int32.toNatClampNeg y0)) - (mo (Int32.toNatClampNeg (x6 - 1))))), .long x4]) ⟨hx, hb, hml, hown, hts⟩ (zX3_sumOfFloors l G cI _ (Int32.toInt64 x8) (Int32.toInt64 x2) (Int32.toInt64 (x2 - 1)) (Int32.toInt64 x3) hv75) ⟨va_cnB 4 hts gX2_countInside_X3_sumOfFloors_n23 rfl rfl rfl hK.2.1 w2 (by decide +kernel) ⟨Nat.le_of_ble_eq_true rfl, Nat.le_of_ble_eq_true rfl⟩, w3, trivial⟩ hK hP rfl hl.1 rfl (Nat.le_of_ble_eq_true rfl) dX2_countInside_75 ⟨Nat.le_of_ble_eq_true rfl, Nat.le_of_ble_eq_true rfl⟩ hS hA (fun H locs hP hz75 hS => ?_)
    refine lv_lmul hx hb dX2_countInside_78 ?_
    refine lv_ladd hx hb dX2_countInside_79 ?_
    refine lv_topl (fun v80 ev80 => ?_)
    have hf := nm_s ev80 hf
    refine lv_lstore (lv' := [(4, .long v80), (9, .int y0), (0, .ref h), (1, .int x1), (2, .int x2), (3, .int x3), (6, .int x6), (7, .int x7), (8, .int x8)]) hx hb dX2_countInside_80 hl (by decide) rfl (fun ls hl => ?_)
    refine lv_iload hx hb dX2_countInside_82 (lv_at hl 1 rfl) ?_
    refine lv_iconst (v := 1) hx hb dX2_countInside_84 (by decide) ?_
    refine lv_iadd hx hb dX2_countInside_85 ?_
    refine lv_topi (fun v86 ev86 => ?_)
    have hf := nm_s ev86 hf
    refine lv_istore (lv' := [(6, .int v86), (4, .long v80), (9, .int y0), (0, .ref h), (1, .int x1), (2, .int x2), (3, .int x3), (7, .int x7), (8, .int x8)]) hx hb dX2_countInside_86 hl (by decide) rfl (fun ls hl => ?_)
    obtain ⟨v88, ev88⟩ : ∃ y : Int32, y = x7 + 1 := ⟨_, rfl⟩
    have hf := nm_s ev88 hf
    refine lv_iinc (v := v88) (lv' := [(7, .int v88), (6, .int v86), (4, .long v80), (9, .int y0), (0, .ref h), (1, .int x1), (2, .int x2), (3, .int x3), (8, .int x8)]) hx hb dX2_countInside_88 hl (k := 7) rfl (by rw [ev88]; rfl) (by decide) rfl (fun ls hl => ?_)
    refine lv_goto (tgt := 9) hx hb dX2_countInside_91 (by decide) ?_
    exact hk9  x1 x2 x3 v80 v86 v88 _ _ _ hf hP hS (lv_sub hl [4, 5, 6, 7, 2, 1, 0] rfl)
  have B9 : ∀ (k9 : Int32 → Int32 → Int32 → Int64 → Int32 → Int32 → Option (Int32)) (hk9 : ∀ (x1 : Int32) (x2 : Int32) (x3 : Int32) (x4 : Int64) (x6 : Int32) (x7 : Int32) (H : Heap) (locs : List Loc) (ls : Array Slot), k9 x1 x2 x3 x4 x6 x7 = some rv → va_P G vwCl [(h, .inr (2, [.ref a4])), (a4, .inl (cI, 201, .inl mo))] H → va_S A s.heap H locs → lv_has ls 10 [(0, .ref h), (1, .int x1), (2, .int x2), (3, .int x3), (4, .long x4), (6, .int x6), (7, .int x7)] → W p l e (headSpec wsX2_countInside ({ frames := 1, cells := 0, slots := 0, locals := 34 })).room s m ([.ref h, .int p1, .int p2, .int p3].toArray) below meth c H locs 0 0 (Qf rv) (F0 m 9 ls [])) (x1 : Int32) (x2 : Int32) (x3 : Int32) (x4 : Int64) (x6 : Int32) (x7 : Int32) (H : Heap) (locs : List Loc) (ls : Array Slot), fX2_countInside_B9 k9 mo x1 x2 x3 x4 x6 x7 = some rv → va_P G vwCl [(h, .inr (2, [.ref a4])), (a4, .inl (cI, 201, .inl mo))] H → va_S A s.heap H locs → lv_has ls 10 [(0, .ref h), (1, .int x1), (2, .int x2), (3, .int x3), (4, .long x4), (6, .int x6), (7, .int x7)] → W p l e (headSpec wsX2_countInside ({ frames := 1, cells := 0, slots := 0, locals := 34 })).room s m ([.ref h, .int p1, .int p2, .int p3].toArray) below meth c H locs 0 0 (Qf rv) (F0 m 9 ls []) := by
    intro k9 hk9  x1 x2 x3 x4 x6 x7 H locs ls hf hP hS hl
    unfold fX2_countInside_B9 at hf
    refine lv_iload hx hb dX2_countInside_9 (lv_at hl 6 rfl) ?_
    refine lv_sipush (v := 200) hx hb dX2_countInside_11 (by decide) ?_
    refine lv_icmp_ge (tgt := 94) hx hb dX2_countInside_14 (by decide) (fun c14 => ?_) (fun c14 => ?_)
    · have hf := it_t c14 hf
      refine lv_lload hx hb dX2_countInside_94 (lv_at hl 4 rfl) ?_
      refine lv_l2i hx hb dX2_countInside_96 rfl ?_
      refine qf_s (Qf := Qf) hf ?_
      rw [hQf]
      exact W.iret hx hb hr (fun t ht hW => ⟨⟨_, (), rfl, rfl, trivial⟩, hS.F ht⟩) hS.2.2 dX2_countInside_97
    · have hf := it_f c14 hf
      refine lv_iload hx hb dX2_countInside_17 (lv_at hl 5 rfl) ?_
      refine lv_iload_n hx hb dX2_countInside_19 rfl (lv_at hl 1 rfl) ?_
      refine lv_icmp_gt (tgt := 94) hx hb dX2_countInside_20 (by decide) (fun c20 => ?_) (fun c20 => ?_)
      · have hf := it_t c20 hf
        refine lv_lload hx hb dX2_countInside_94 (lv_at hl 4 rfl) ?_
        refine lv_l2i hx hb dX2_countInside_96 rfl ?_
        refine qf_s (Qf := Qf) hf ?_
        rw [hQf]
        exact W.iret hx hb hr (fun t ht hW => ⟨⟨_, (), rfl, rfl, trivial⟩, hS.F ht⟩) hS.2.2 dX2_countInside_97
      · have hf := it_f c20 hf
        refine lv_iload_n hx hb dX2_countInside_23 rfl (lv_at hl 1 rfl) ?_
        refine lv_iload hx hb dX2_countInside_24 (lv_at hl 5 rfl) ?_
        obtain ⟨hz26, hf⟩ := ckZ_s hf
        refine lv_idiv hx hb dX2_countInside_26 hz26 ?_
        refine lv_topi (fun v27 ev27 => ?_)
        have hf := nm_s ev27 hf
        refine lv_istore (lv' := [(8, .int v27), (0, .ref h), (1, .int x1), (2, .int x2), (3, .int x3), (4, .long x4), (6, .int x6), (7, .int x7)]) hx hb dX2_countInside_27 hl (by decide) rfl (fun ls hl => ?_)
        refine lv_iload hx hb dX2_countInside_29 (lv_at hl 0 rfl) ?_
        refine lv_if_le (tgt := 41) hx hb dX2_countInside_31 (by decide) (fun c31 => ?_) (fun c31 => ?_)
        · have hf := it_t c31 hf
          refine lv_iload_n hx hb dX2_countInside_41 rfl (lv_at hl 2 rfl) ?_
          exact J42 k9 hk9  x1 x2 x3 x4 x6 x7 v27 x1 _ _ _ hf hP hS (lv_sub hl [1, 2, 3, 4, 5, 6, 7, 0] rfl)
        · have hf := it_f c31 hf
          refine lv_iload_n hx hb dX2_countInside_34 rfl (lv_at hl 2 rfl) ?_
          refine lv_iload hx hb dX2_countInside_35 (lv_at hl 0 rfl) ?_
          obtain ⟨hz37, hf⟩ := ckZ_s hf
          refine lv_idiv hx hb dX2_countInside_37 hz37 ?_
          refine lv_goto (tgt := 42) hx hb dX2_countInside_38 (by decide) ?_
          exact J42 k9 hk9  x1 x2 x3 x4 x6 x7 v27 (x1 / v27) _ _ _ hf hP hS (lv_sub hl [1, 2, 3, 4, 5, 6, 7, 0] rfl)
  have L9 : ∀ (fu : Nat) (x1 : Int32) (x2 : Int32) (x3 : Int32) (x4 : Int64) (x6 : Int32) (x7 : Int32) (H : Heap) (locs : List Loc) (ls : Array Slot), fX2_countInside_L9  mo fu x1 x2 x3 x4 x6 x7 = some rv → va_P G vwCl [(h, .inr (2, [.ref a4])), (a4, .inl (cI, 201, .inl mo))] H → va_S A s.heap H locs → lv_has ls 10 [(0, .ref h), (1, .int x1), (2, .int x2), (3, .int x3), (4, .long x4), (6, .int x6), (7, .int x7)] → W p l e (headSpec wsX2_countInside ({ frames := 1, cells := 0, slots := 0, locals := 34 })).room s m ([.ref h, .int p1, .int p2, .int p3].toArray) below meth c H locs 0 0 (Qf rv) (F0 m 9 ls []) := by
    intro  fu
    induction fu with
    | zero => intro  x1 x2 x3 x4 x6 x7 H locs ls hf; cases hf
    | succ fu ih => intro  x1 x2 x3 x4 x6 x7 H locs ls hf hP hS hl; exact B9 (fX2_countInside_L9  mo fu) ih  x1 x2 x3 x4 x6 x7 _ _ _ hf hP hS hl
  have hl := lv_entry ([.ref h, .int p1, .int p2, .int p3]) (n := 10) (Nat.le_of_ble_eq_true rfl)
  rw [lg_entry_eq]
  generalize (lg_sl ([.ref h, .int p1, .int p2, .int p3]) ++ List.replicate (10 - (lg_sl ([.ref h, .int p1, .int p2, .int p3])).length) Slot.unset).toArray = ls at hl ⊢
  have hl : lv_has ls 10 [(0, .ref h), (1, .int p1), (2, .int p2), (3, .int p3)] := hl
  unfold fX2_countInside at hf
  refine lv_lconst (v := 0) hx hb dX2_countInside_0 (by decide) ?_
  refine lv_lstore (lv' := [(4, .long 0), (0, .ref h), (1, .int p1), (2, .int p2), (3, .int p3)]) hx hb dX2_countInside_1 hl (by decide) rfl (fun ls hl => ?_)
  refine lv_iconst (v := 1) hx hb dX2_countInside_3 (by decide) ?_
  refine lv_istore (lv' := [(6, .int 1), (4, .long 0), (0, .ref h), (1, .int p1), (2, .int p2), (3, .int p3)]) hx hb dX2_countInside_4 hl (by decide) rfl (fun ls hl => ?_)
  refine lv_iconst (v := 0) hx hb dX2_countInside_6 (by decide) ?_
  refine lv_istore (lv' := [(7, .int 0), (6, .int 1), (4, .long 0), (0, .ref h), (1, .int p1), (2, .int p2), (3, .int p3)]) hx hb dX2_countInside_7 hl (by decide) rfl (fun ls hl => ?_)
  exact L9  FU  p1 p2 p3 0 1 0 _ _ _ hf hP hS (lv_sub hl [3, 4, 5, 6, 2, 1, 0] rfl)
def fX2_countAll (mo : Nat → Int32) (p1 : Int32) : Option (Int32) :=
  bd1 (fX2_countInside mo p1 1 1) fun r4 =>
  some (r4 + 2)
set_option maxHeartbeats 4000000 in
set_option maxRecDepth 100000 in
theorem zX2_countAll (l : Launch) (G : va_G) (cI : ClassId) (sz : Nat) (h a4 : Nat) (mo : Nat → Int32) (p1 : Int32) {rv : Int32} (hf : fX2_countAll mo p1 = some rv) : mRi l yX2_countAll wsX2_countAll ({ frames := 2, cells := 0, slots := 0, locals := 63 }) [.ref h, .int p1] G cI [(h, .inr (2, [.ref a4])), (a4, .inl (cI, 201, .inl mo))] sz rv := by
  refine Met.ofW (cc := cX2_countAll) (maxL := 2) (ret := (some .int)) (by decide) rfl ?_
  intro p e s m args below meth c s₁ B hml hv
  obtain ⟨rfl, hsz, hP, hK⟩ := hv
  have hx := B.exec
  have hb := B.bytes
  have hr := B.returns
  have hts := atoms_spec (ws := wsX2_countAll) B.pre
  have hown : s.vm.findClass RX2 = some m.cls := findClass_of_methodNamed B.named
  have hlocks := B.notSynchronized
  subst hsz
  generalize hAe : va_A [] s.heap.size = A
  have hA : ∀ q : Nat, s.heap.size ≤ q → A q := fun q h => by rw [← hAe]; exact Or.inr h
  have hS : va_S A s.heap s.heap [] := va_S.rf
  obtain ⟨Qf, hQf⟩ : ∃ f : Int32 → State → Prop, f = fun z => MQ below (va_Qi (fun (r : Int32) (_ : Unit) => r = z) (fun _ _ => True) A) ([.ref h, .int p1].toArray) s 0 0 A := ⟨_, rfl⟩
  suffices hgo : W p l e (headSpec wsX2_countAll ({ frames := 2, cells := 0, slots := 0, locals := 63 })).room s m ([.ref h, .int p1].toArray) below meth c s.heap [] 0 0 (Qf rv) (entryFrame m ([.ref h, .int p1].toArray) 2) by rw [hQf] at hgo; exact hgo
  have hl := lv_entry ([.ref h, .int p1]) (n := 2) (Nat.le_of_ble_eq_true rfl)
  rw [lg_entry_eq]
  generalize (lg_sl ([.ref h, .int p1]) ++ List.replicate (2 - (lg_sl ([.ref h, .int p1])).length) Slot.unset).toArray = ls at hl ⊢
  have hl : lv_has ls 2 [(0, .ref h), (1, .int p1)] := hl
  unfold fX2_countAll at hf
  refine lv_aload_n hx hb dX2_countAll_0 rfl (lv_at hl 0 rfl) ?_
  refine lv_iload_n hx hb dX2_countAll_1 rfl (lv_at hl 1 rfl) ?_
  refine lv_iconst (v := 1) hx hb dX2_countAll_2 (by decide) ?_
  refine lv_iconst (v := 1) hx hb dX2_countAll_3 (by decide) ?_
  obtain ⟨r4, hv4, hf⟩ := bd1_s hf
  refine roVi (As := [.int p1, .int 1, .int 1]) (rest := []) ⟨hx, hb, hml, hown, hts⟩ (zX2_countInside l G cI _ h a4 mo p1 1 1 hv4) (cwV 3 hts gX2_countAll_X2_countInside rfl rfl rfl (by decide +kernel) ⟨Nat.le_of_ble_eq_true rfl, Nat.le_of_ble_eq_true rfl⟩) hK hP (hP.sub [0, 1] rfl) rfl rfl rfl hl.1 rfl (Nat.le_of_ble_eq_true rfl) dX2_countAll_4 ⟨Nat.le_of_ble_eq_true rfl, Nat.le_of_ble_eq_true rfl⟩ hS hA (fun H locs hP hz4 hS => ?_)
  refine lv_iconst (v := 2) hx hb dX2_countAll_7 (by decide) ?_
  refine lv_iadd hx hb dX2_countAll_8 ?_
  refine qf_s (Qf := Qf) hf ?_
  rw [hQf]
  exact W.iret hx hb hr (fun t ht hW => ⟨⟨_, (), rfl, rfl, trivial⟩, hS.F ht⟩) hS.2.2 dX2_countAll_9
def fX2_countBelow (mo : Nat → Int32) (p1 : Int32) (p2 : Int32) (p3 : Int32) : Option (Int32) :=
  if p2 = 0 then
    some 0
  else
    if p2 ≤ p3 then
      bd1 (fX2_countInside mo p1 p2 p3) fun r23 =>
      some (r23 + 1)
    else
      bd1 (fX2_countAll mo p1) fun r13 =>
      some r13
set_option maxHeartbeats 4000000 in
set_option maxRecDepth 100000 in
theorem zX2_countBelow (l : Launch) (G : va_G) (cI : ClassId) (sz : Nat) (h a4 : Nat) (mo : Nat → Int32) (p1 : Int32) (p2 : Int32) (p3 : Int32) {rv : Int32} (hf : fX2_countBelow mo p1 p2 p3 = some rv) : mRi l yX2_countBelow wsX2_countBelow ({ frames := 3, cells := 0, slots := 0, locals := 84 }) [.ref h, .int p1, .int p2, .int p3] G cI [(h, .inr (2, [.ref a4])), (a4, .inl (cI, 201, .inl mo))] sz rv := by
  refine Met.ofW (cc := cX2_countBelow) (maxL := 4) (ret := (some .int)) (by decide) rfl ?_
  intro p e s m args below meth c s₁ B hml hv
  obtain ⟨rfl, hsz, hP, hK⟩ := hv
  have hx := B.exec
  have hb := B.bytes
  have hr := B.returns
  have hts := atoms_spec (ws := wsX2_countBelow) B.pre
  have hown : s.vm.findClass RX2 = some m.cls := findClass_of_methodNamed B.named
  have hlocks := B.notSynchronized
  subst hsz
  generalize hAe : va_A [] s.heap.size = A
  have hA : ∀ q : Nat, s.heap.size ≤ q → A q := fun q h => by rw [← hAe]; exact Or.inr h
  have hS : va_S A s.heap s.heap [] := va_S.rf
  obtain ⟨Qf, hQf⟩ : ∃ f : Int32 → State → Prop, f = fun z => MQ below (va_Qi (fun (r : Int32) (_ : Unit) => r = z) (fun _ _ => True) A) ([.ref h, .int p1, .int p2, .int p3].toArray) s 0 0 A := ⟨_, rfl⟩
  suffices hgo : W p l e (headSpec wsX2_countBelow ({ frames := 3, cells := 0, slots := 0, locals := 84 })).room s m ([.ref h, .int p1, .int p2, .int p3].toArray) below meth c s.heap [] 0 0 (Qf rv) (entryFrame m ([.ref h, .int p1, .int p2, .int p3].toArray) 4) by rw [hQf] at hgo; exact hgo
  have hl := lv_entry ([.ref h, .int p1, .int p2, .int p3]) (n := 4) (Nat.le_of_ble_eq_true rfl)
  rw [lg_entry_eq]
  generalize (lg_sl ([.ref h, .int p1, .int p2, .int p3]) ++ List.replicate (4 - (lg_sl ([.ref h, .int p1, .int p2, .int p3])).length) Slot.unset).toArray = ls at hl ⊢
  have hl : lv_has ls 4 [(0, .ref h), (1, .int p1), (2, .int p2), (3, .int p3)] := hl
  unfold fX2_countBelow at hf
  refine lv_iload_n hx hb dX2_countBelow_0 rfl (lv_at hl 2 rfl) ?_
  refine lv_if_ne (tgt := 6) hx hb dX2_countBelow_1 (by decide) (fun c1 => ?_) (fun c1 => ?_)
  · have hf := it_f c1 hf
    refine lv_iload_n hx hb dX2_countBelow_6 rfl (lv_at hl 2 rfl) ?_
    refine lv_iload_n hx hb dX2_countBelow_7 rfl (lv_at hl 3 rfl) ?_
    refine lv_icmp_le (tgt := 19) hx hb dX2_countBelow_8 (by decide) (fun c8 => ?_) (fun c8 => ?_)
    · have hf := it_t c8 hf
      refine lv_aload_n hx hb dX2_countBelow_19 rfl (lv_at hl 0 rfl) ?_
      refine lv_iload_n hx hb dX2_countBelow_20 rfl (lv_at hl 1 rfl) ?_
      refine lv_iload_n hx hb dX2_countBelow_21 rfl (lv_at hl 2 rfl) ?_
      refine lv_iload_n hx hb dX2_countBelow_22 rfl (lv_at hl 3 rfl) ?_
      obtain ⟨r23, hv23, hf⟩ := bd1_s hf
      refine roVi (As := [.int p1, .int p2, .int p3]) (rest := []) ⟨hx, hb, hml, hown, hts⟩ (zX2_countInside l G cI _ h a4 mo p1 p2 p3 hv23) (cwV 3 hts gX2_countBelow_X2_countInside rfl rfl rfl (by decide +kernel) ⟨Nat.le_of_ble_eq_true rfl, Nat.le_of_ble_eq_true rfl⟩) hK hP (hP.sub [0, 1] rfl) rfl rfl rfl hl.1 rfl (Nat.le_of_ble_eq_true rfl) dX2_countBelow_23 ⟨Nat.le_of_ble_eq_true rfl, Nat.le_of_ble_eq_true rfl⟩ hS hA (fun H locs hP hz23 hS => ?_)
      refine lv_iconst (v := 1) hx hb dX2_countBelow_26 (by decide) ?_
      refine lv_iadd hx hb dX2_countBelow_27 ?_
      refine qf_s (Qf := Qf) hf ?_
      rw [hQf]
      exact W.iret hx hb hr (fun t ht hW => ⟨⟨_, (), rfl, rfl, trivial⟩, hS.F ht⟩) hS.2.2 dX2_countBelow_28
    · have hf := it_f c8 hf
      refine lv_aload_n hx hb dX2_countBelow_11 rfl (lv_at hl 0 rfl) ?_
      refine lv_iload_n hx hb dX2_countBelow_12 rfl (lv_at hl 1 rfl) ?_
      obtain ⟨r13, hv13, hf⟩ := bd1_s hf
      refine roVi (As := [.int p1]) (rest := []) ⟨hx, hb, hml, hown, hts⟩ (zX2_countAll l G cI _ h a4 mo p1 hv13) (cwV 1 hts gX2_countBelow_X2_countAll rfl rfl rfl (by decide +kernel) ⟨Nat.le_of_ble_eq_true rfl, Nat.le_of_ble_eq_true rfl⟩) hK hP (hP.sub [0, 1] rfl) rfl rfl rfl hl.1 rfl (Nat.le_of_ble_eq_true rfl) dX2_countBelow_13 ⟨Nat.le_of_ble_eq_true rfl, Nat.le_of_ble_eq_true rfl⟩ hS hA (fun H locs hP hz13 hS => ?_)
      refine lv_goto (tgt := 28) hx hb dX2_countBelow_16 (by decide) ?_
      refine qf_s (Qf := Qf) hf ?_
      rw [hQf]
      exact W.iret hx hb hr (fun t ht hW => ⟨⟨_, (), rfl, rfl, trivial⟩, hS.F ht⟩) hS.2.2 dX2_countBelow_28
  · have hf := it_t c1 hf
    refine lv_iconst (v := 0) hx hb dX2_countBelow_4 (by decide) ?_
    refine qf_s (Qf := Qf) hf ?_
    rw [hQf]
    exact W.iret hx hb hr (fun t ht hW => ⟨⟨_, (), rfl, rfl, trivial⟩, hS.F ht⟩) hS.2.2 dX2_countBelow_5
def fX2_columnOf_J55 (k10 : Int32 → Int32 → Int32 → Int32 → Int32 → Option (Int32)) (mo : Nat → Int32) (x1 : Int32) (x2 : Int32) (x3 : Int32) (x4 : Int32) (x5 : Int32) : Option (Int32) :=
  nm (x5 + 1) fun v55 =>
  k10 x1 x2 x3 x4 v55
def fX2_columnOf_B10 (k10 : Int32 → Int32 → Int32 → Int32 → Int32 → Option (Int32)) (mo : Nat → Int32) (x1 : Int32) (x2 : Int32) (x3 : Int32) (x4 : Int32) (x5 : Int32) : Option (Int32) :=
  if 64 ≤ x5 then
    some x3
  else
    if (x4 - x3) ≤ 1 then
      some x3
    else
      ckZ 2 <|
      nm ((x3 + x4) / 2) fun v31 =>
      bd1 (fX2_countBelow mo x1 v31 x1) fun r38 =>
      if x2 < r38 then
        fX2_columnOf_J55 k10 mo x1 x2 x3 v31 x5
      else
        fX2_columnOf_J55 k10 mo x1 x2 v31 x4 x5
def fX2_columnOf_L10 (mo : Nat → Int32) : Nat → Int32 → Int32 → Int32 → Int32 → Int32 → Option (Int32)
  | 0, _, _, _, _, _ => none
  | n + 1, x1, x2, x3, x4, x5 => fX2_columnOf_B10 (fX2_columnOf_L10  mo n) mo x1 x2 x3 x4 x5
def fX2_columnOf (mo : Nat → Int32) (p1 : Int32) (p2 : Int32) : Option (Int32) :=
  nm (p1 + 1) fun v5 =>
  fX2_columnOf_L10  mo FU p1 p2 0 v5 0
set_option maxHeartbeats 4000000 in
set_option maxRecDepth 100000 in
theorem zX2_columnOf (l : Launch) (G : va_G) (cI : ClassId) (sz : Nat) (h a4 : Nat) (mo : Nat → Int32) (p1 : Int32) (p2 : Int32) {rv : Int32} (hf : fX2_columnOf mo p1 p2 = some rv) : mRi l yX2_columnOf wsX2_columnOf ({ frames := 4, cells := 0, slots := 0, locals := 107 }) [.ref h, .int p1, .int p2] G cI [(h, .inr (2, [.ref a4])), (a4, .inl (cI, 201, .inl mo))] sz rv := by
  refine Met.ofW (cc := cX2_columnOf) (maxL := 7) (ret := (some .int)) (by decide) rfl ?_
  intro p e s m args below meth c s₁ B hml hv
  obtain ⟨rfl, hsz, hP, hK⟩ := hv
  have hx := B.exec
  have hb := B.bytes
  have hr := B.returns
  have hts := atoms_spec (ws := wsX2_columnOf) B.pre
  have hown : s.vm.findClass RX2 = some m.cls := findClass_of_methodNamed B.named
  have hlocks := B.notSynchronized
  subst hsz
  generalize hAe : va_A [] s.heap.size = A
  have hA : ∀ q : Nat, s.heap.size ≤ q → A q := fun q h => by rw [← hAe]; exact Or.inr h
  have hS : va_S A s.heap s.heap [] := va_S.rf
  obtain ⟨Qf, hQf⟩ : ∃ f : Int32 → State → Prop, f = fun z => MQ below (va_Qi (fun (r : Int32) (_ : Unit) => r = z) (fun _ _ => True) A) ([.ref h, .int p1, .int p2].toArray) s 0 0 A := ⟨_, rfl⟩
  suffices hgo : W p l e (headSpec wsX2_columnOf ({ frames := 4, cells := 0, slots := 0, locals := 107 })).room s m ([.ref h, .int p1, .int p2].toArray) below meth c s.heap [] 0 0 (Qf rv) (entryFrame m ([.ref h, .int p1, .int p2].toArray) 7) by rw [hQf] at hgo; exact hgo
  have J55 : ∀ (k10 : Int32 → Int32 → Int32 → Int32 → Int32 → Option (Int32)) (hk10 : ∀ (x1 : Int32) (x2 : Int32) (x3 : Int32) (x4 : Int32) (x5 : Int32) (H : Heap) (locs : List Loc) (ls : Array Slot), k10 x1 x2 x3 x4 x5 = some rv → va_P G vwCl [(h, .inr (2, [.ref a4])), (a4, .inl (cI, 201, .inl mo))] H → va_S A s.heap H locs → lv_has ls 7 [(0, .ref h), (1, .int x1), (2, .int x2), (3, .int x3), (4, .int x4), (5, .int x5)] → W p l e (headSpec wsX2_columnOf ({ frames := 4, cells := 0, slots := 0, locals := 107 })).room s m ([.ref h, .int p1, .int p2].toArray) below meth c H locs 0 0 (Qf rv) (F0 m 10 ls [])) (x1 : Int32) (x2 : Int32) (x3 : Int32) (x4 : Int32) (x5 : Int32) (H : Heap) (locs : List Loc) (ls : Array Slot), fX2_columnOf_J55 k10 mo x1 x2 x3 x4 x5 = some rv → va_P G vwCl [(h, .inr (2, [.ref a4])), (a4, .inl (cI, 201, .inl mo))] H → va_S A s.heap H locs → lv_has ls 7 [(0, .ref h), (1, .int x1), (2, .int x2), (3, .int x3), (4, .int x4), (5, .int x5)] → W p l e (headSpec wsX2_columnOf ({ frames := 4, cells := 0, slots := 0, locals := 107 })).room s m ([.ref h, .int p1, .int p2].toArray) below meth c H locs 0 0 (Qf rv) (F0 m 55 ls []) := by
    intro k10 hk10  x1 x2 x3 x4 x5 H locs ls hf hP hS hl
    unfold fX2_columnOf_J55 at hf
    obtain ⟨v55, ev55⟩ : ∃ y : Int32, y = x5 + 1 := ⟨_, rfl⟩
    have hf := nm_s ev55 hf
    refine lv_iinc (v := v55) (lv' := [(5, .int v55), (0, .ref h), (1, .int x1), (2, .int x2), (3, .int x3), (4, .int x4)]) hx hb dX2_columnOf_55 hl (k := 5) rfl (by rw [ev55]; rfl) (by decide) rfl (fun ls hl => ?_)
    refine lv_goto (tgt := 10) hx hb dX2_columnOf_58 (by decide) ?_
    exact hk10  x1 x2 x3 x4 v55 _ _ _ hf hP hS (lv_sub hl [1, 2, 3, 4, 5, 0] rfl)
  have B10 : ∀ (k10 : Int32 → Int32 → Int32 → Int32 → Int32 → Option (Int32)) (hk10 : ∀ (x1 : Int32) (x2 : Int32) (x3 : Int32) (x4 : Int32) (x5 : Int32) (H : Heap) (locs : List Loc) (ls : Array Slot), k10 x1 x2 x3 x4 x5 = some rv → va_P G vwCl [(h, .inr (2, [.ref a4])), (a4, .inl (cI, 201, .inl mo))] H → va_S A s.heap H locs → lv_has ls 7 [(0, .ref h), (1, .int x1), (2, .int x2), (3, .int x3), (4, .int x4), (5, .int x5)] → W p l e (headSpec wsX2_columnOf ({ frames := 4, cells := 0, slots := 0, locals := 107 })).room s m ([.ref h, .int p1, .int p2].toArray) below meth c H locs 0 0 (Qf rv) (F0 m 10 ls [])) (x1 : Int32) (x2 : Int32) (x3 : Int32) (x4 : Int32) (x5 : Int32) (H : Heap) (locs : List Loc) (ls : Array Slot), fX2_columnOf_B10 k10 mo x1 x2 x3 x4 x5 = some rv → va_P G vwCl [(h, .inr (2, [.ref a4])), (a4, .inl (cI, 201, .inl mo))] H → va_S A s.heap H locs → lv_has ls 7 [(0, .ref h), (1, .int x1), (2, .int x2), (3, .int x3), (4, .int x4), (5, .int x5)] → W p l e (headSpec wsX2_columnOf ({ frames := 4, cells := 0, slots := 0, locals := 107 })).room s m ([.ref h, .int p1, .int p2].toArray) below meth c H locs 0 0 (Qf rv) (F0 m 10 ls []) := by
    intro k10 hk10  x1 x2 x3 x4 x5 H locs ls hf hP hS hl
    unfold fX2_columnOf_B10 at hf
    refine lv_iload hx hb dX2_columnOf_10 (lv_at hl 5 rfl) ?_
    refine lv_bipush (v := 64) hx hb dX2_columnOf_12 (by decide) ?_
    refine lv_icmp_ge (tgt := 61) hx hb dX2_columnOf_14 (by decide) (fun c14 => ?_) (fun c14 => ?_)
    · have hf := it_t c14 hf
      refine lv_iload_n hx hb dX2_columnOf_61 rfl (lv_at hl 3 rfl) ?_
      refine qf_s (Qf := Qf) hf ?_
      rw [hQf]
      exact W.iret hx hb hr (fun t ht hW => ⟨⟨_, (), rfl, rfl, trivial⟩, hS.F ht⟩) hS.2.2 dX2_columnOf_62
    · have hf := it_f c14 hf
      refine lv_iload hx hb dX2_columnOf_17 (lv_at hl 4 rfl) ?_
      refine lv_iload_n hx hb dX2_columnOf_19 rfl (lv_at hl 3 rfl) ?_
      refine lv_isub hx hb dX2_columnOf_20 ?_
      refine lv_iconst (v := 1) hx hb dX2_columnOf_21 (by decide) ?_
      refine lv_icmp_le (tgt := 61) hx hb dX2_columnOf_22 (by decide) (fun c22 => ?_) (fun c22 => ?_)
      · have hf := it_t c22 hf
        refine lv_iload_n hx hb dX2_columnOf_61 rfl (lv_at hl 3 rfl) ?_
        refine qf_s (Qf := Qf) hf ?_
        rw [hQf]
        exact W.iret hx hb hr (fun t ht hW => ⟨⟨_, (), rfl, rfl, trivial⟩, hS.F ht⟩) hS.2.2 dX2_columnOf_62
      · have hf := it_f c22 hf
        refine lv_iload_n hx hb dX2_columnOf_25 rfl (lv_at hl 3 rfl) ?_
        refine lv_iload hx hb dX2_columnOf_26 (lv_at hl 4 rfl) ?_
        refine lv_iadd hx hb dX2_columnOf_28 ?_
        refine lv_iconst (v := 2) hx hb dX2_columnOf_29 (by decide) ?_
        obtain ⟨hz30, hf⟩ := ckZ_s hf
        refine lv_idiv hx hb dX2_columnOf_30 hz30 ?_
        refine lv_topi (fun v31 ev31 => ?_)
        have hf := nm_s ev31 hf
        refine lv_istore (lv' := [(6, .int v31), (0, .ref h), (1, .int x1), (2, .int x2), (3, .int x3), (4, .int x4), (5, .int x5)]) hx hb dX2_columnOf_31 hl (by decide) rfl (fun ls hl => ?_)
        refine lv_aload_n hx hb dX2_columnOf_33 rfl (lv_at hl 1 rfl) ?_
        refine lv_iload_n hx hb dX2_columnOf_34 rfl (lv_at hl 2 rfl) ?_
        refine lv_iload hx hb dX2_columnOf_35 (lv_at hl 0 rfl) ?_
        refine lv_iload_n hx hb dX2_columnOf_37 rfl (lv_at hl 2 rfl) ?_
        obtain ⟨r38, hv38, hf⟩ := bd1_s hf
        refine roVi (As := [.int x1, .int v31, .int x1]) (rest := []) ⟨hx, hb, hml, hown, hts⟩ (zX2_countBelow l G cI _ h a4 mo x1 v31 x1 hv38) (cwV 3 hts gX2_columnOf_X2_countBelow rfl rfl rfl (by decide +kernel) ⟨Nat.le_of_ble_eq_true rfl, Nat.le_of_ble_eq_true rfl⟩) hK hP (hP.sub [0, 1] rfl) rfl rfl rfl hl.1 rfl (Nat.le_of_ble_eq_true rfl) dX2_columnOf_38 ⟨Nat.le_of_ble_eq_true rfl, Nat.le_of_ble_eq_true rfl⟩ hS hA (fun H locs hP hz38 hS => ?_)
        refine lv_iload_n hx hb dX2_columnOf_41 rfl (lv_at hl 3 rfl) ?_
        refine lv_icmp_gt (tgt := 51) hx hb dX2_columnOf_42 (by decide) (fun c42 => ?_) (fun c42 => ?_)
        · have hf := it_t c42 hf
          refine lv_iload hx hb dX2_columnOf_51 (lv_at hl 0 rfl) ?_
          refine lv_istore (lv' := [(4, .int v31), (6, .int v31), (0, .ref h), (1, .int x1), (2, .int x2), (3, .int x3), (5, .int x5)]) hx hb dX2_columnOf_53 hl (by decide) rfl (fun ls hl => ?_)
          exact J55 k10 hk10  x1 x2 x3 v31 x5 _ _ _ hf hP hS (lv_sub hl [2, 3, 4, 5, 0, 6] rfl)
        · have hf := it_f c42 hf
          refine lv_iload hx hb dX2_columnOf_45 (lv_at hl 0 rfl) ?_
          refine lv_istore_n (lv' := [(3, .int v31), (6, .int v31), (0, .ref h), (1, .int x1), (2, .int x2), (4, .int x4), (5, .int x5)]) hx hb dX2_columnOf_47 rfl hl (by decide) rfl (fun ls hl => ?_)
          refine lv_goto (tgt := 55) hx hb dX2_columnOf_48 (by decide) ?_
          exact J55 k10 hk10  x1 x2 v31 x4 x5 _ _ _ hf hP hS (lv_sub hl [2, 3, 4, 0, 5, 6] rfl)
  have L10 : ∀ (fu : Nat) (x1 : Int32) (x2 : Int32) (x3 : Int32) (x4 : Int32) (x5 : Int32) (H : Heap) (locs : List Loc) (ls : Array Slot), fX2_columnOf_L10  mo fu x1 x2 x3 x4 x5 = some rv → va_P G vwCl [(h, .inr (2, [.ref a4])), (a4, .inl (cI, 201, .inl mo))] H → va_S A s.heap H locs → lv_has ls 7 [(0, .ref h), (1, .int x1), (2, .int x2), (3, .int x3), (4, .int x4), (5, .int x5)] → W p l e (headSpec wsX2_columnOf ({ frames := 4, cells := 0, slots := 0, locals := 107 })).room s m ([.ref h, .int p1, .int p2].toArray) below meth c H locs 0 0 (Qf rv) (F0 m 10 ls []) := by
    intro  fu
    induction fu with
    | zero => intro  x1 x2 x3 x4 x5 H locs ls hf; cases hf
    | succ fu ih => intro  x1 x2 x3 x4 x5 H locs ls hf hP hS hl; exact B10 (fX2_columnOf_L10  mo fu) ih  x1 x2 x3 x4 x5 _ _ _ hf hP hS hl
  have hl := lv_entry ([.ref h, .int p1, .int p2]) (n := 7) (Nat.le_of_ble_eq_true rfl)
  rw [lg_entry_eq]
  generalize (lg_sl ([.ref h, .int p1, .int p2]) ++ List.replicate (7 - (lg_sl ([.ref h, .int p1, .int p2])).length) Slot.unset).toArray = ls at hl ⊢
  have hl : lv_has ls 7 [(0, .ref h), (1, .int p1), (2, .int p2)] := hl
  unfold fX2_columnOf at hf
  refine lv_iconst (v := 0) hx hb dX2_columnOf_0 (by decide) ?_
  refine lv_istore_n (lv' := [(3, .int 0), (0, .ref h), (1, .int p1), (2, .int p2)]) hx hb dX2_columnOf_1 rfl hl (by decide) rfl (fun ls hl => ?_)
  refine lv_iload_n hx hb dX2_columnOf_2 rfl (lv_at hl 2 rfl) ?_
  refine lv_iconst (v := 1) hx hb dX2_columnOf_3 (by decide) ?_
  refine lv_iadd hx hb dX2_columnOf_4 ?_
  refine lv_topi (fun v5 ev5 => ?_)
  have hf := nm_s ev5 hf
  refine lv_istore (lv' := [(4, .int v5), (3, .int 0), (0, .ref h), (1, .int p1), (2, .int p2)]) hx hb dX2_columnOf_5 hl (by decide) rfl (fun ls hl => ?_)
  refine lv_iconst (v := 0) hx hb dX2_columnOf_7 (by decide) ?_
  refine lv_istore (lv' := [(5, .int 0), (4, .int v5), (3, .int 0), (0, .ref h), (1, .int p1), (2, .int p2)]) hx hb dX2_columnOf_8 hl (by decide) rfl (fun ls hl => ?_)
  exact L10  FU  p1 p2 0 v5 0 _ _ _ hf hP hS (lv_sub hl [3, 4, 5, 2, 1, 0] rfl)
def fX2_bottomBehind_B2 (k2 : Int32 → Int32 → Int32 → Int32 → Option (Int32)) (x0 : Int32) (x1 : Int32) (x2 : Int32) (x3 : Int32) : Option (Int32) :=
  if x3 ≤ (x0 - x2) then
    some x0
  else
    if x2 ≤ 0 then
      some x0
    else
      ckZ x2 <|
      if (((x1 * x3) + 1) - ((x1 * x3) + 1) / x2 * x2) = 0 then
        some x3
      else
        nm (x3 + (-1)) fun v25 =>
        k2 x0 x1 x2 v25
def fX2_bottomBehind_L2 : Nat → Int32 → Int32 → Int32 → Int32 → Option (Int32)
  | 0, _, _, _, _ => none
  | n + 1, x0, x1, x2, x3 => fX2_bottomBehind_B2 (fX2_bottomBehind_L2   n)  x0 x1 x2 x3
def fX2_bottomBehind (p0 : Int32) (p1 : Int32) (p2 : Int32) : Option (Int32) :=
  fX2_bottomBehind_L2   FU p0 p1 p2 p0
set_option maxHeartbeats 4000000 in
set_option maxRecDepth 100000 in
theorem zX2_bottomBehind (l : Launch) (G : va_G) (cI : ClassId) (sz : Nat) (p0 : Int32) (p1 : Int32) (p2 : Int32) {rv : Int32} (hf : fX2_bottomBehind p0 p1 p2 = some rv) : mRi l yX2_bottomBehind wsX2_bottomBehind ({ frames := 0, cells := 0, slots := 0, locals := 0 }) [.int p0, .int p1, .int p2] G cI [] sz rv := by
  refine Met.ofW (cc := cX2_bottomBehind) (maxL := 4) (ret := (some .int)) (by decide) rfl ?_
  intro p e s m args below meth c s₁ B hml hv
  obtain ⟨rfl, hsz, hP, hK⟩ := hv
  have hx := B.exec
  have hb := B.bytes
  have hr := B.returns
  have hts := atoms_spec (ws := wsX2_bottomBehind) B.pre
  have hown : s.vm.findClass RX2 = some m.cls := findClass_of_methodNamed B.named
  have hlocks := B.notSynchronized
  subst hsz
  generalize hAe : va_A [] s.heap.size = A
  have hA : ∀ q : Nat, s.heap.size ≤ q → A q := fun q h => by rw [← hAe]; exact Or.inr h
  have hS : va_S A s.heap s.heap [] := va_S.rf
  obtain ⟨Qf, hQf⟩ : ∃ f : Int32 → State → Prop, f = fun z => MQ below (va_Qi (fun (r : Int32) (_ : Unit) => r = z) (fun _ _ => True) A) ([.int p0, .int p1, .int p2].toArray) s 0 0 A := ⟨_, rfl⟩
  suffices hgo : W p l e (headSpec wsX2_bottomBehind ({ frames := 0, cells := 0, slots := 0, locals := 0 })).room s m ([.int p0, .int p1, .int p2].toArray) below meth c s.heap [] 0 0 (Qf rv) (entryFrame m ([.int p0, .int p1, .int p2].toArray) 4) by rw [hQf] at hgo; exact hgo
  have B2 : ∀ (k2 : Int32 → Int32 → Int32 → Int32 → Option (Int32)) (hk2 : ∀ (x0 : Int32) (x1 : Int32) (x2 : Int32) (x3 : Int32) (H : Heap) (locs : List Loc) (ls : Array Slot), k2 x0 x1 x2 x3 = some rv → va_P G vwCl [] H → va_S A s.heap H locs → lv_has ls 4 [(0, .int x0), (1, .int x1), (2, .int x2), (3, .int x3)] → W p l e (headSpec wsX2_bottomBehind ({ frames := 0, cells := 0, slots := 0, locals := 0 })).room s m ([.int p0, .int p1, .int p2].toArray) below meth c H locs 0 0 (Qf rv) (F0 m 2 ls [])) (x0 : Int32) (x1 : Int32) (x2 : Int32) (x3 : Int32) (H : Heap) (locs : List Loc) (ls : Array Slot), fX2_bottomBehind_B2 k2  x0 x1 x2 x3 = some rv → va_P G vwCl [] H → va_S A s.heap H locs → lv_has ls 4 [(0, .int x0), (1, .int x1), (2, .int x2), (3, .int x3)] → W p l e (headSpec wsX2_bottomBehind ({ frames := 0, cells := 0, slots := 0, locals := 0 })).room s m ([.int p0, .int p1, .int p2].toArray) below meth c H locs 0 0 (Qf rv) (F0 m 2 ls []) := by
    intro k2 hk2  x0 x1 x2 x3 H locs ls hf hP hS hl
    unfold fX2_bottomBehind_B2 at hf
    refine lv_iload_n hx hb dX2_bottomBehind_2 rfl (lv_at hl 3 rfl) ?_
    refine lv_iload_n hx hb dX2_bottomBehind_3 rfl (lv_at hl 0 rfl) ?_
    refine lv_iload_n hx hb dX2_bottomBehind_4 rfl (lv_at hl 2 rfl) ?_
    refine lv_isub hx hb dX2_bottomBehind_5 ?_
    refine lv_icmp_le (tgt := 31) hx hb dX2_bottomBehind_6 (by decide) (fun c6 => ?_) (fun c6 => ?_)
    · have hf := it_t c6 hf
      refine lv_iload_n hx hb dX2_bottomBehind_31 rfl (lv_at hl 0 rfl) ?_
      refine qf_s (Qf := Qf) hf ?_
      rw [hQf]
      exact W.iret hx hb hr (fun t ht hW => ⟨⟨_, (), rfl, rfl, trivial⟩, hS.F ht⟩) hS.2.2 dX2_bottomBehind_32
    · have hf := it_f c6 hf
      refine lv_iload_n hx hb dX2_bottomBehind_9 rfl (lv_at hl 2 rfl) ?_
      refine lv_if_le (tgt := 31) hx hb dX2_bottomBehind_10 (by decide) (fun c10 => ?_) (fun c10 => ?_)
      · have hf := it_t c10 hf
        refine lv_iload_n hx hb dX2_bottomBehind_31 rfl (lv_at hl 0 rfl) ?_
        refine qf_s (Qf := Qf) hf ?_
        rw [hQf]
        exact W.iret hx hb hr (fun t ht hW => ⟨⟨_, (), rfl, rfl, trivial⟩, hS.F ht⟩) hS.2.2 dX2_bottomBehind_32
      · have hf := it_f c10 hf
        refine lv_iload_n hx hb dX2_bottomBehind_13 rfl (lv_at hl 1 rfl) ?_
        refine lv_iload_n hx hb dX2_bottomBehind_14 rfl (lv_at hl 3 rfl) ?_
        refine lv_imul hx hb dX2_bottomBehind_15 ?_
        refine lv_iconst (v := 1) hx hb dX2_bottomBehind_16 (by decide) ?_
        refine lv_iadd hx hb dX2_bottomBehind_17 ?_
        refine lv_iload_n hx hb dX2_bottomBehind_18 rfl (lv_at hl 2 rfl) ?_
        obtain ⟨hz19, hf⟩ := ckZ_s hf
        refine lv_irem hx hb dX2_bottomBehind_19 hz19 ?_
        refine lv_if_ne (tgt := 25) hx hb dX2_bottomBehind_20 (by decide) (fun c20 => ?_) (fun c20 => ?_)
        · have hf := it_f c20 hf
          obtain ⟨v25, ev25⟩ : ∃ y : Int32, y = x3 + (-1) := ⟨_, rfl⟩
          have hf := nm_s ev25 hf
          refine lv_iinc (v := v25) (lv' := [(3, .int v25), (0, .int x0), (1, .int x1), (2, .int x2)]) hx hb dX2_bottomBehind_25 hl (k := 3) rfl (by rw [ev25]; rfl) (by decide) rfl (fun ls hl => ?_)
          refine lv_goto (tgt := 2) hx hb dX2_bottomBehind_28 (by decide) ?_
          exact hk2  x0 x1 x2 v25 _ _ _ hf hP hS (lv_sub hl [1, 2, 3, 0] rfl)
        · have hf := it_t c20 hf
          refine lv_iload_n hx hb dX2_bottomBehind_23 rfl (lv_at hl 3 rfl) ?_
          refine qf_s (Qf := Qf) hf ?_
          rw [hQf]
          exact W.iret hx hb hr (fun t ht hW => ⟨⟨_, (), rfl, rfl, trivial⟩, hS.F ht⟩) hS.2.2 dX2_bottomBehind_24
  have L2 : ∀ (fu : Nat) (x0 : Int32) (x1 : Int32) (x2 : Int32) (x3 : Int32) (H : Heap) (locs : List Loc) (ls : Array Slot), fX2_bottomBehind_L2   fu x0 x1 x2 x3 = some rv → va_P G vwCl [] H → va_S A s.heap H locs → lv_has ls 4 [(0, .int x0), (1, .int x1), (2, .int x2), (3, .int x3)] → W p l e (headSpec wsX2_bottomBehind ({ frames := 0, cells := 0, slots := 0, locals := 0 })).room s m ([.int p0, .int p1, .int p2].toArray) below meth c H locs 0 0 (Qf rv) (F0 m 2 ls []) := by
    intro  fu
    induction fu with
    | zero => intro  x0 x1 x2 x3 H locs ls hf; cases hf
    | succ fu ih => intro  x0 x1 x2 x3 H locs ls hf hP hS hl; exact B2 (fX2_bottomBehind_L2   fu) ih  x0 x1 x2 x3 _ _ _ hf hP hS hl
  have hl := lv_entry ([.int p0, .int p1, .int p2]) (n := 4) (Nat.le_of_ble_eq_true rfl)
  rw [lg_entry_eq]
  generalize (lg_sl ([.int p0, .int p1, .int p2]) ++ List.replicate (4 - (lg_sl ([.int p0, .int p1, .int p2])).length) Slot.unset).toArray = ls at hl ⊢
  have hl : lv_has ls 4 [(0, .int p0), (1, .int p1), (2, .int p2)] := hl
  unfold fX2_bottomBehind at hf
  refine lv_iload_n hx hb dX2_bottomBehind_0 rfl (lv_at hl 0 rfl) ?_
  refine lv_istore_n (lv' := [(3, .int p0), (0, .int p0), (1, .int p1), (2, .int p2)]) hx hb dX2_bottomBehind_1 rfl hl (by decide) rfl (fun ls hl => ?_)
  exact L2  FU  p0 p1 p2 p0 _ _ _ hf hP hS (lv_sub hl [1, 2, 3, 0] rfl)

def fX4_near_J271 (mtp : Int32) (mbt : Int32) (mth : Int32) (x3 : Int32) (x4 : Int64) (x6 : Int64) (x8 : Int64) (x10 : Int64) (y0 : Int32) : Option (Int32 × Int32) :=
  if x3 = 0 then
    if y0 = 0 then
      some ((Int64.toInt32 x8), mth)
    else
      some ((Int64.toInt32 x4), mth)
  else
    if y0 = 0 then
      some ((Int64.toInt32 x10), mth)
    else
      some ((Int64.toInt32 x6), mth)
def fX4_near_J266 (mtp : Int32) (mbt : Int32) (mth : Int32) (x3 : Int32) (x4 : Int64) (x6 : Int64) (x8 : Int64) (x10 : Int64) : Option (Int32 × Int32) :=
  fX4_near_J271  mtp mbt mth x3 x4 x6 x8 x10 1
def fX4_near_J270 (mtp : Int32) (mbt : Int32) (mth : Int32) (x3 : Int32) (x4 : Int64) (x6 : Int64) (x8 : Int64) (x10 : Int64) : Option (Int32 × Int32) :=
  fX4_near_J271  mtp mbt mth x3 x4 x6 x8 x10 0
def fX4_near_J180 (k67 : Int32 → Int32 → Int32 → Int32 → Int64 → Int64 → Int64 → Int64 → Int64 → Option (Int32 × Int32)) (mtp : Int32) (mbt : Int32) (mth : Int32) (x1 : Int32) (x2 : Int32) (x3 : Int32) (x4 : Int64) (x6 : Int64) (x8 : Int64) (x10 : Int64) (x12 : Int64) : Option (Int32 × Int32) :=
  nm (x12 + 1) fun v184 =>
  k67 mth x1 x2 x3 x4 x6 x8 x10 v184
def fX4_near_J172 (k67 : Int32 → Int32 → Int32 → Int32 → Int64 → Int64 → Int64 → Int64 → Int64 → Option (Int32 × Int32)) (mtp : Int32) (mbt : Int32) (mth : Int32) (x1 : Int32) (x2 : Int32) (x3 : Int32) (x4 : Int64) (x6 : Int64) (x12 : Int64) (x16 : Int64) : Option (Int32 × Int32) :=
  fX4_near_J180 k67 mtp mbt mth x1 x2 x3 x4 x6 x16 x12 x12
def fX4_near_J149 (k67 : Int32 → Int32 → Int32 → Int32 → Int64 → Int64 → Int64 → Int64 → Int64 → Option (Int32 × Int32)) (mtp : Int32) (mbt : Int32) (mth : Int32) (x1 : Int32) (x2 : Int32) (x3 : Int32) (x4 : Int64) (x6 : Int64) (x8 : Int64) (x10 : Int64) (x12 : Int64) (y0 : Int64) : Option (Int32 × Int32) :=
  if (lg_cmp x10 0) = 0 then
    fX4_near_J172 k67 mtp mbt mth x1 x2 x3 x4 x6 x12 y0
  else
    if 0 ≤ (lg_cmp (y0 * x10) (x8 * x12)) then
      fX4_near_J180 k67 mtp mbt mth x1 x2 x3 x4 x6 x8 x10 x12
    else
      fX4_near_J172 k67 mtp mbt mth x1 x2 x3 x4 x6 x12 y0
def fX4_near_J120 (k67 : Int32 → Int32 → Int32 → Int32 → Int64 → Int64 → Int64 → Int64 → Int64 → Option (Int32 × Int32)) (mtp : Int32) (mbt : Int32) (mth : Int32) (x1 : Int32) (x2 : Int32) (x3 : Int32) (x4 : Int64) (x6 : Int64) (x8 : Int64) (x10 : Int64) (x12 : Int64) (x14 : Int64) : Option (Int32 × Int32) :=
  if (lg_cmp (x14 * (Int32.toInt64 mbt)) ((Int32.toInt64 mtp) * x12)) = 0 then
    fX4_near_J149 k67 mtp mbt mth x1 x2 x3 x4 x6 x8 x10 x12 x14
  else
    fX4_near_J149 k67 mtp mbt mth x1 x2 x3 x4 x6 x8 x10 x12 (x14 + 1)
def fX4_near_J112 (k67 : Int32 → Int32 → Int32 → Int32 → Int64 → Int64 → Int64 → Int64 → Int64 → Option (Int32 × Int32)) (mtp : Int32) (mbt : Int32) (mth : Int32) (x1 : Int32) (x2 : Int32) (x3 : Int32) (x8 : Int64) (x10 : Int64) (x12 : Int64) (x14 : Int64) : Option (Int32 × Int32) :=
  fX4_near_J120 k67 mtp mbt mth x1 x2 x3 x14 x12 x8 x10 x12 x14
def fX4_near_B67 (k67 : Int32 → Int32 → Int32 → Int32 → Int64 → Int64 → Int64 → Int64 → Int64 → Option (Int32 × Int32)) (mtp : Int32) (mbt : Int32) (mth : Int32) (x1 : Int32) (x2 : Int32) (x3 : Int32) (x4 : Int64) (x6 : Int64) (x8 : Int64) (x10 : Int64) (x12 : Int64) : Option (Int32 × Int32) :=
  if 0 < (lg_cmp x12 (Int32.toInt64 x1)) then
    nm ((((Int32.toInt64 mtp) * x6) - (x4 * (Int32.toInt64 mbt))) * x10) fun v209 =>
    nm (((x8 * (Int32.toInt64 mbt)) - ((Int32.toInt64 mtp) * x10)) * x6) fun v231 =>
    if x2 = 0 then
      fX4_near_J266  mtp mbt mth x3 x4 x6 x8 x10
    else
      if x2 = 2 then
        if (lg_cmp v209 v231) < 0 then
          fX4_near_J266  mtp mbt mth x3 x4 x6 x8 x10
        else
          if (lg_cmp v209 v231) = 0 then
            if 0 < (lg_cmp x6 x10) then
              fX4_near_J270  mtp mbt mth x3 x4 x6 x8 x10
            else
              fX4_near_J266  mtp mbt mth x3 x4 x6 x8 x10
          else
            fX4_near_J270  mtp mbt mth x3 x4 x6 x8 x10
      else
        fX4_near_J270  mtp mbt mth x3 x4 x6 x8 x10
  else
    ckL (Int32.toInt64 mbt) <|
    nm (((Int32.toInt64 mtp) * x12) / (Int32.toInt64 mbt)) fun v89 =>
    if (lg_cmp x6 0) = 0 then
      fX4_near_J112 k67 mtp mbt mth x1 x2 x3 x8 x10 x12 v89
    else
      if (lg_cmp (v89 * x6) (x4 * x12)) ≤ 0 then
        fX4_near_J120 k67 mtp mbt mth x1 x2 x3 x4 x6 x8 x10 x12 v89
      else
        fX4_near_J112 k67 mtp mbt mth x1 x2 x3 x8 x10 x12 v89
def fX4_near_L67 (mtp : Int32) (mbt : Int32) : Nat → Int32 → Int32 → Int32 → Int32 → Int64 → Int64 → Int64 → Int64 → Int64 → Option (Int32 × Int32)
  | 0, _, _, _, _, _, _, _, _, _ => none
  | n + 1, mth, x1, x2, x3, x4, x6, x8, x10, x12 => fX4_near_B67 (fX4_near_L67  mtp mbt n) mtp mbt mth x1 x2 x3 x4 x6 x8 x10 x12
def fX4_near_J40 (mtp : Int32) (mbt : Int32) (mth : Int32) (x1 : Int32) (x2 : Int32) (x3 : Int32) (y1 : Int32) : Option (Int32 × Int32) :=
  if y1 ≤ 0 then
    fX4_near_L67  mtp mbt FU y1 x1 x2 x3 0 0 0 0 1
  else
    some (0, y1)
def fX4_near_J39 (mtp : Int32) (mbt : Int32) (mth : Int32) (x1 : Int32) (x2 : Int32) (x3 : Int32) : Option (Int32 × Int32) :=
  fX4_near_J40  mtp mbt mth x1 x2 x3 1
def fX4_near (mtp : Int32) (mbt : Int32) (mth : Int32) (p1 : Int32) (p2 : Int32) (p3 : Int32) : Option (Int32 × Int32) :=
  bd1 (fX4_in (Int32.toInt64 p1) 1 1000) fun r7 =>
  if r7 = 0 then
    fX4_near_J39  mtp mbt mth p1 p2 p3
  else
    bd1 (fX4_in (Int32.toInt64 p2) 0 2) fun r19 =>
    if r19 = 0 then
      fX4_near_J39  mtp mbt mth p1 p2 p3
    else
      bd1 (fX4_in (Int32.toInt64 p3) 0 1) fun r29 =>
      if r29 = 0 then
        fX4_near_J39  mtp mbt mth p1 p2 p3
      else
        fX4_near_J40  mtp mbt mth p1 p2 p3 0
set_option maxHeartbeats 4000000 in
set_option maxRecDepth 100000 in
theorem zX4_near (l : Launch) (G : va_G) (cI : ClassId) (sz : Nat) (h a5 a6 : Nat) (mth : Int32) (mtp : Int32) (mbt : Int32) (mmn : Int32) (mte : Nat → Int32) (mrs : Int32) (mru : Nat → Int32) (mlt : Int64) (mlb : Int64) (mht : Int64) (mhb : Int64) (p1 : Int32) (p2 : Int32) (p3 : Int32) {rv : Int32} {o_mth : Int32} (hf : fX4_near mtp mbt mth p1 p2 p3 = some (rv, o_mth)) : mMi l yX4_near wsX4_near ({ frames := 1, cells := 0, slots := 0, locals := 25 }) [.ref h, .int p1, .int p2, .int p3] G cI [(h, .inr (4, [.int mth, .int mtp, .int mbt, .int mmn, .ref a5, .int mrs, .ref a6, .long mlt, .long mlb, .long mht, .long mhb])), (a5, .inl (cI, 64, .inl mte)), (a6, .inl (cI, 64, .inl mru))] sz rv [(h, .inr (4, [.int o_mth, .int mtp, .int mbt, .int mmn, .ref a5, .int mrs, .ref a6, .long mlt, .long mlb, .long mht, .long mhb])), (a5, .inl (cI, 64, .inl mte)), (a6, .inl (cI, 64, .inl mru))] 0 0 := by
  refine Met.ofW (cc := cX4_near) (maxL := 18) (ret := (some .int)) (by decide) rfl ?_
  intro p e s m args below meth c s₁ B hml hv
  obtain ⟨rfl, hsz, hP, hK, hD0⟩ := hv
  have hx := B.exec
  have hb := B.bytes
  have hr := B.returns
  have hts := atoms_spec (ws := wsX4_near) B.pre
  have hown : s.vm.findClass RX4 = some m.cls := findClass_of_methodNamed B.named
  have hlocks := B.notSynchronized
  subst hsz
  have hD := hD0.self (sz := s.heap.size)
  generalize hAe : va_A [(h, .inr (4, [.int mth, .int mtp, .int mbt, .int mmn, .ref a5, .int mrs, .ref a6, .long mlt, .long mlb, .long mht, .long mhb])), (a5, .inl (cI, 64, .inl mte)), (a6, .inl (cI, 64, .inl mru))] s.heap.size = A at hD ⊢
  have hA : ∀ q : Nat, s.heap.size ≤ q → A q := fun q h => by rw [← hAe]; exact Or.inr h
  have hS : va_S A s.heap s.heap [] := va_S.rf
  have w0 := hts (.constantLong RX4 68 (1000)) (by decide +kernel)
  have w1 := hts (.constantLong RX4 70 (2)) (by decide +kernel)
  have w2 := hts (.fieldLink RX4 23 "SternDeskModel" "thrown" "I") (by decide +kernel)
  have hinX4 : ∀ w ∈ u_ws RX4 TX4 11, w ∈ wsX4_near := by decide +kernel
  have w4 := hts (.fieldLink RX4 7 "SternDeskModel" "top" "I") (by decide +kernel)
  have w5 := hts (.fieldLink RX4 13 "SternDeskModel" "bottom" "I") (by decide +kernel)
  obtain ⟨Qf, hQf⟩ : ∃ f : (Int32 × Int32) → State → Prop, f = fun z => MQ below (va_Qi (fun (r : Int32) (_ : Unit) => r = z.1) (fun _ t => va_P G vwCl [(h, .inr (4, [.int z.2, .int mtp, .int mbt, .int mmn, .ref a5, .int mrs, .ref a6, .long mlt, .long mlb, .long mht, .long mhb])), (a5, .inl (cI, 64, .inl mte)), (a6, .inl (cI, 64, .inl mru))] t.heap ∧ va_D A [(h, .inr (4, [.int z.2, .int mtp, .int mbt, .int mmn, .ref a5, .int mrs, .ref a6, .long mlt, .long mlb, .long mht, .long mhb])), (a5, .inl (cI, 64, .inl mte)), (a6, .inl (cI, 64, .inl mru))]) A) ([.ref h, .int p1, .int p2, .int p3].toArray) s 0 0 A := ⟨_, rfl⟩
  suffices hgo : W p l e (headSpec wsX4_near ({ frames := 1, cells := 0, slots := 0, locals := 25 })).room s m ([.ref h, .int p1, .int p2, .int p3].toArray) below meth c s.heap [] 0 0 (Qf (rv, o_mth)) (entryFrame m ([.ref h, .int p1, .int p2, .int p3].toArray) 18) by rw [hQf] at hgo; exact hgo
  have J271 : ∀ (mth : Int32) (x3 : Int32) (x4 : Int64) (x6 : Int64) (x8 : Int64) (x10 : Int64) (y0 : Int32) (H : Heap) (locs : List Loc) (ls : Array Slot), fX4_near_J271  mtp mbt mth x3 x4 x6 x8 x10 y0 = some (rv, o_mth) → va_P G vwCl [(h, .inr (4, [.int mth, .int mtp, .int mbt, .int mmn, .ref a5, .int mrs, .ref a6, .long mlt, .long mlb, .long mht, .long mhb])), (a5, .inl (cI, 64, .inl mte)), (a6, .inl (cI, 64, .inl mru))] H → va_D A [(h, .inr (4, [.int mth, .int mtp, .int mbt, .int mmn, .ref a5, .int mrs, .ref a6, .long mlt, .long mlb, .long mht, .long mhb])), (a5, .inl (cI, 64, .inl mte)), (a6, .inl (cI, 64, .inl mru))] → va_S A s.heap H locs → lv_has ls 18 [(3, .int x3), (4, .long x4), (6, .long x6), (8, .long x8), (10, .long x10)] → W p l e (headSpec wsX4_near ({ frames := 1, cells := 0, slots := 0, locals := 25 })).room s m ([.ref h, .int p1, .int p2, .int p3].toArray) below meth c H locs 0 0 (Qf (rv, o_mth)) (F0 m 271 ls [.int y0]) := by
    intro   mth x3 x4 x6 x8 x10 y0 H locs ls hf hP hD hS hl
    unfold fX4_near_J271 at hf
    refine lv_istore (lv' := [(16, .int y0), (3, .int x3), (4, .long x4), (6, .long x6), (8, .long x8), (10, .long x10)]) hx hb dX4_near_271 hl (by decide) rfl (fun ls hl => ?_)
    refine lv_iload_n hx hb dX4_near_273 rfl (lv_at hl 1 rfl) ?_
    refine lv_if_ne (tgt := 292) hx hb dX4_near_274 (by decide) (fun c274 => ?_) (fun c274 => ?_)
    · have hf := it_f c274 hf
      refine lv_iload hx hb dX4_near_292 (lv_at hl 0 rfl) ?_
      refine lv_if_eq (tgt := 302) hx hb dX4_near_294 (by decide) (fun c294 => ?_) (fun c294 => ?_)
      · have hf := it_t c294 hf
        refine lv_lload hx hb dX4_near_302 (lv_at hl 5 rfl) ?_
        refine lv_l2i hx hb dX4_near_304 rfl ?_
        refine qf_s (Qf := Qf) hf ?_
        have hP9 : va_P G vwCl [(h, .inr (4, [.int mth, .int mtp, .int mbt, .int mmn, .ref a5, .int mrs, .ref a6, .long mlt, .long mlb, .long mht, .long mhb])), (a5, .inl (cI, 64, .inl mte)), (a6, .inl (cI, 64, .inl mru))] _ := hP.sub [0, 1, 2] rfl
        have hD9 : va_D A [(h, .inr (4, [.int mth, .int mtp, .int mbt, .int mmn, .ref a5, .int mrs, .ref a6, .long mlt, .long mlb, .long mht, .long mhb])), (a5, .inl (cI, 64, .inl mte)), (a6, .inl (cI, 64, .inl mru))] := hD.sub [0, 1, 2] (by decide) rfl
        rw [hQf]
        exact W.iret hx hb hr (fun t ht hW => ⟨⟨_, (), rfl, rfl, by rw [ht]; exact hP9, hD9⟩, hS.F ht⟩) hS.2.2 dX4_near_305
      · have hf := it_f c294 hf
        refine lv_lload hx hb dX4_near_297 (lv_at hl 3 rfl) ?_
        refine lv_goto (tgt := 304) hx hb dX4_near_299 (by decide) ?_
        refine lv_l2i hx hb dX4_near_304 rfl ?_
        refine qf_s (Qf := Qf) hf ?_
        have hP9 : va_P G vwCl [(h, .inr (4, [.int mth, .int mtp, .int mbt, .int mmn, .ref a5, .int mrs, .ref a6, .long mlt, .long mlb, .long mht, .long mhb])), (a5, .inl (cI, 64, .inl mte)), (a6, .inl (cI, 64, .inl mru))] _ := hP.sub [0, 1, 2] rfl
        have hD9 : va_D A [(h, .inr (4, [.int mth, .int mtp, .int mbt, .int mmn, .ref a5, .int mrs, .ref a6, .long mlt, .long mlb, .long mht, .long mhb])), (a5, .inl (cI, 64, .inl mte)), (a6, .inl (cI, 64, .inl mru))] := hD.sub [0, 1, 2] (by decide) rfl
        rw [hQf]
        exact W.iret hx hb hr (fun t ht hW => ⟨⟨_, (), rfl, rfl, by rw [ht]; exact hP9, hD9⟩, hS.F ht⟩) hS.2.2 dX4_near_305
    · have hf := it_t c274 hf
      refine lv_iload hx hb dX4_near_277 (lv_at hl 0 rfl) ?_
      refine lv_if_eq (tgt := 287) hx hb dX4_near_279 (by decide) (fun c279 => ?_) (fun c279 => ?_)
      · have hf := it_t c279 hf
        refine lv_lload hx hb dX4_near_287 (lv_at hl 4 rfl) ?_
        refine lv_goto (tgt := 304) hx hb dX4_near_289 (by decide) ?_
        refine lv_l2i hx hb dX4_near_304 rfl ?_
        refine qf_s (Qf := Qf) hf ?_
        have hP9 : va_P G vwCl [(h, .inr (4, [.int mth, .int mtp, .int mbt, .int mmn, .ref a5, .int mrs, .ref a6, .long mlt, .long mlb, .long mht, .long mhb])), (a5, .inl (cI, 64, .inl mte)), (a6, .inl (cI, 64, .inl mru))] _ := hP.sub [0, 1, 2] rfl
        have hD9 : va_D A [(h, .inr (4, [.int mth, .int mtp, .int mbt, .int mmn, .ref a5, .int mrs, .ref a6, .long mlt, .long mlb, .long mht, .long mhb])), (a5, .inl (cI, 64, .inl mte)), (a6, .inl (cI, 64, .inl mru))] := hD.sub [0, 1, 2] (by decide) rfl
        rw [hQf]
        exact W.iret hx hb hr (fun t ht hW => ⟨⟨_, (), rfl, rfl, by rw [ht]; exact hP9, hD9⟩, hS.F ht⟩) hS.2.2 dX4_near_305
      · have hf := it_f c279 hf
        refine lv_lload hx hb dX4_near_282 (lv_at hl 2 rfl) ?_
        refine lv_goto (tgt := 304) hx hb dX4_near_284 (by decide) ?_
        refine lv_l2i hx hb dX4_near_304 rfl ?_
        refine qf_s (Qf := Qf) hf ?_
        have hP9 : va_P G vwCl [(h, .inr (4, [.int mth, .int mtp, .int mbt, .int mmn, .ref a5, .int mrs, .ref a6, .long mlt, .long mlb, .long mht, .long mhb])), (a5, .inl (cI, 64, .inl mte)), (a6, .inl (cI, 64, .inl mru))] _ := hP.sub [0, 1, 2] rfl
        have hD9 : va_D A [(h, .inr (4, [.int mth, .int mtp, .int mbt, .int mmn, .ref a5, .int mrs, .ref a6, .long mlt, .long mlb, .long mht, .long mhb])), (a5, .inl (cI, 64, .inl mte)), (a6, .inl (cI, 64, .inl mru))] := hD.sub [0, 1, 2] (by decide) rfl
        rw [hQf]
        exact W.iret hx hb hr (fun t ht hW => ⟨⟨_, (), rfl, rfl, by rw [ht]; exact hP9, hD9⟩, hS.F ht⟩) hS.2.2 dX4_near_305
  have J266 : ∀ (mth : Int32) (x3 : Int32) (x4 : Int64) (x6 : Int64) (x8 : Int64) (x10 : Int64) (H : Heap) (locs : List Loc) (ls : Array Slot), fX4_near_J266  mtp mbt mth x3 x4 x6 x8 x10 = some (rv, o_mth) → va_P G vwCl [(h, .inr (4, [.int mth, .int mtp, .int mbt, .int mmn, .ref a5, .int mrs, .ref a6, .long mlt, .long mlb, .long mht, .long mhb])), (a5, .inl (cI, 64, .inl mte)), (a6, .inl (cI, 64, .inl mru))] H → va_D A [(h, .inr (4, [.int mth, .int mtp, .int mbt, .int mmn, .ref a5, .int mrs, .ref a6, .long mlt, .long mlb, .long mht, .long mhb])), (a5, .inl (cI, 64, .inl mte)), (a6, .inl (cI, 64, .inl mru))] → va_S A s.heap H locs → lv_has ls 18 [(3, .int x3), (4, .long x4), (6, .long x6), (8, .long x8), (10, .long x10)] → W p l e (headSpec wsX4_near ({ frames := 1, cells := 0, slots := 0, locals := 25 })).room s m ([.ref h, .int p1, .int p2, .int p3].toArray) below meth c H locs 0 0 (Qf (rv, o_mth)) (F0 m 266 ls []) := by
    intro   mth x3 x4 x6 x8 x10 H locs ls hf hP hD hS hl
    unfold fX4_near_J266 at hf
    refine lv_iconst (v := 1) hx hb dX4_near_266 (by decide) ?_
    refine lv_goto (tgt := 271) hx hb dX4_near_267 (by decide) ?_
    exact J271   mth x3 x4 x6 x8 x10 1 _ _ _ hf hP hD hS (lv_sub hl [0, 1, 2, 3, 4] rfl)
  have J270 : ∀ (mth : Int32) (x3 : Int32) (x4 : Int64) (x6 : Int64) (x8 : Int64) (x10 : Int64) (H : Heap) (locs : List Loc) (ls : Array Slot), fX4_near_J270  mtp mbt mth x3 x4 x6 x8 x10 = some (rv, o_mth) → va_P G vwCl [(h, .inr (4, [.int mth, .int mtp, .int mbt, .int mmn, .ref a5, .int mrs, .ref a6, .long mlt, .long mlb, .long mht, .long mhb])), (a5, .inl (cI, 64, .inl mte)), (a6, .inl (cI, 64, .inl mru))] H → va_D A [(h, .inr (4, [.int mth, .int mtp, .int mbt, .int mmn, .ref a5, .int mrs, .ref a6, .long mlt, .long mlb, .long mht, .long mhb])), (a5, .inl (cI, 64, .inl mte)), (a6, .inl (cI, 64, .inl mru))] → va_S A s.heap H locs → lv_has ls 18 [(3, .int x3), (4, .long x4), (6, .long x6), (8, .long x8), (10, .long x10)] → W p l e (headSpec wsX4_near ({ frames := 1, cells := 0, slots := 0, locals := 25 })).room s m ([.ref h, .int p1, .int p2, .int p3].toArray) below meth c H locs 0 0 (Qf (rv, o_mth)) (F0 m 270 ls []) := by
    intro   mth x3 x4 x6 x8 x10 H locs ls hf hP hD hS hl
    unfold fX4_near_J270 at hf
    refine lv_iconst (v := 0) hx hb dX4_near_270 (by decide) ?_
    exact J271   mth x3 x4 x6 x8 x10 0 _ _ _ hf hP hD hS (lv_sub hl [0, 1, 2, 3, 4] rfl)
  have J180 : ∀ (k67 : Int32 → Int32 → Int32 → Int32 → Int64 → Int64 → Int64 → Int64 → Int64 → Option (Int32 × Int32)) (hk67 : ∀ (mth : Int32) (x1 : Int32) (x2 : Int32) (x3 : Int32) (x4 : Int64) (x6 : Int64) (x8 : Int64) (x10 : Int64) (x12 : Int64) (H : Heap) (locs : List Loc) (ls : Array Slot), k67 mth x1 x2 x3 x4 x6 x8 x10 x12 = some (rv, o_mth) → va_P G vwCl [(h, .inr (4, [.int mth, .int mtp, .int mbt, .int mmn, .ref a5, .int mrs, .ref a6, .long mlt, .long mlb, .long mht, .long mhb])), (a5, .inl (cI, 64, .inl mte)), (a6, .inl (cI, 64, .inl mru))] H → va_D A [(h, .inr (4, [.int mth, .int mtp, .int mbt, .int mmn, .ref a5, .int mrs, .ref a6, .long mlt, .long mlb, .long mht, .long mhb])), (a5, .inl (cI, 64, .inl mte)), (a6, .inl (cI, 64, .inl mru))] → va_S A s.heap H locs → lv_has ls 18 [(0, .ref h), (1, .int x1), (2, .int x2), (3, .int x3), (4, .long x4), (6, .long x6), (8, .long x8), (10, .long x10), (12, .long x12)] → W p l e (headSpec wsX4_near ({ frames := 1, cells := 0, slots := 0, locals := 25 })).room s m ([.ref h, .int p1, .int p2, .int p3].toArray) below meth c H locs 0 0 (Qf (rv, o_mth)) (F0 m 67 ls [])) (mth : Int32) (x1 : Int32) (x2 : Int32) (x3 : Int32) (x4 : Int64) (x6 : Int64) (x8 : Int64) (x10 : Int64) (x12 : Int64) (H : Heap) (locs : List Loc) (ls : Array Slot), fX4_near_J180 k67 mtp mbt mth x1 x2 x3 x4 x6 x8 x10 x12 = some (rv, o_mth) → va_P G vwCl [(h, .inr (4, [.int mth, .int mtp, .int mbt, .int mmn, .ref a5, .int mrs, .ref a6, .long mlt, .long mlb, .long mht, .long mhb])), (a5, .inl (cI, 64, .inl mte)), (a6, .inl (cI, 64, .inl mru))] H → va_D A [(h, .inr (4, [.int mth, .int mtp, .int mbt, .int mmn, .ref a5, .int mrs, .ref a6, .long mlt, .long mlb, .long mht, .long mhb])), (a5, .inl (cI, 64, .inl mte)), (a6, .inl (cI, 64, .inl mru))] → va_S A s.heap H locs → lv_has ls 18 [(0, .ref h), (1, .int x1), (2, .int x2), (3, .int x3), (4, .long x4), (6, .long x6), (8, .long x8), (10, .long x10), (12, .long x12)] → W p l e (headSpec wsX4_near ({ frames := 1, cells := 0, slots := 0, locals := 25 })).room s m ([.ref h, .int p1, .int p2, .int p3].toArray) below meth c H locs 0 0 (Qf (rv, o_mth)) (F0 m 180 ls []) := by
    intro k67 hk67  mth x1 x2 x3 x4 x6 x8 x10 x12 H locs ls hf hP hD hS hl
    unfold fX4_near_J180 at hf
    refine lv_lload hx hb dX4_near_180 (lv_at hl 8 rfl) ?_
    refine lv_lconst (v := 1) hx hb dX4_near_182 (by decide) ?_
    refine lv_ladd hx hb dX4_near_183 ?_
    refine lv_topl (fun v184 ev184 => ?_)
    have hf := nm_s ev184 hf
    refine lv_lstore (lv' := [(12, .long v184), (0, .ref h), (1, .int x1), (2, .int x2), (3, .int x3), (4, .long x4), (6, .long x6), (8, .long x8), (10, .long x10)]) hx hb dX4_near_184 hl (by decide) rfl (fun ls hl => ?_)
    refine lv_goto (tgt := 67) hx hb dX4_near_186 (by decide) ?_
    exact hk67  mth x1 x2 x3 x4 x6 x8 x10 v184 _ _ _ hf hP hD hS (lv_sub hl [1, 2, 3, 4, 5, 6, 7, 8, 0] rfl)
  have J172 : ∀ (k67 : Int32 → Int32 → Int32 → Int32 → Int64 → Int64 → Int64 → Int64 → Int64 → Option (Int32 × Int32)) (hk67 : ∀ (mth : Int32) (x1 : Int32) (x2 : Int32) (x3 : Int32) (x4 : Int64) (x6 : Int64) (x8 : Int64) (x10 : Int64) (x12 : Int64) (H : Heap) (locs : List Loc) (ls : Array Slot), k67 mth x1 x2 x3 x4 x6 x8 x10 x12 = some (rv, o_mth) → va_P G vwCl [(h, .inr (4, [.int mth, .int mtp, .int mbt, .int mmn, .ref a5, .int mrs, .ref a6, .long mlt, .long mlb, .long mht, .long mhb])), (a5, .inl (cI, 64, .inl mte)), (a6, .inl (cI, 64, .inl mru))] H → va_D A [(h, .inr (4, [.int mth, .int mtp, .int mbt, .int mmn, .ref a5, .int mrs, .ref a6, .long mlt, .long mlb, .long mht, .long mhb])), (a5, .inl (cI, 64, .inl mte)), (a6, .inl (cI, 64, .inl mru))] → va_S A s.heap H locs → lv_has ls 18 [(0, .ref h), (1, .int x1), (2, .int x2), (3, .int x3), (4, .long x4), (6, .long x6), (8, .long x8), (10, .long x10), (12, .long x12)] → W p l e (headSpec wsX4_near ({ frames := 1, cells := 0, slots := 0, locals := 25 })).room s m ([.ref h, .int p1, .int p2, .int p3].toArray) below meth c H locs 0 0 (Qf (rv, o_mth)) (F0 m 67 ls [])) (mth : Int32) (x1 : Int32) (x2 : Int32) (x3 : Int32) (x4 : Int64) (x6 : Int64) (x12 : Int64) (x16 : Int64) (H : Heap) (locs : List Loc) (ls : Array Slot), fX4_near_J172 k67 mtp mbt mth x1 x2 x3 x4 x6 x12 x16 = some (rv, o_mth) → va_P G vwCl [(h, .inr (4, [.int mth, .int mtp, .int mbt, .int mmn, .ref a5, .int mrs, .ref a6, .long mlt, .long mlb, .long mht, .long mhb])), (a5, .inl (cI, 64, .inl mte)), (a6, .inl (cI, 64, .inl mru))] H → va_D A [(h, .inr (4, [.int mth, .int mtp, .int mbt, .int mmn, .ref a5, .int mrs, .ref a6, .long mlt, .long mlb, .long mht, .long mhb])), (a5, .inl (cI, 64, .inl mte)), (a6, .inl (cI, 64, .inl mru))] → va_S A s.heap H locs → lv_has ls 18 [(0, .ref h), (1, .int x1), (2, .int x2), (3, .int x3), (4, .long x4), (6, .long x6), (12, .long x12), (16, .long x16)] → W p l e (headSpec wsX4_near ({ frames := 1, cells := 0, slots := 0, locals := 25 })).room s m ([.ref h, .int p1, .int p2, .int p3].toArray) below meth c H locs 0 0 (Qf (rv, o_mth)) (F0 m 172 ls []) := by
    intro k67 hk67  mth x1 x2 x3 x4 x6 x12 x16 H locs ls hf hP hD hS hl
    unfold fX4_near_J172 at hf
    refine lv_lload hx hb dX4_near_172 (lv_at hl 7 rfl) ?_
    refine lv_lstore (lv' := [(8, .long x16), (0, .ref h), (1, .int x1), (2, .int x2), (3, .int x3), (4, .long x4), (6, .long x6), (12, .long x12), (16, .long x16)]) hx hb dX4_near_174 hl (by decide) rfl (fun ls hl => ?_)
    refine lv_lload hx hb dX4_near_176 (lv_at hl 7 rfl) ?_
    refine lv_lstore (lv' := [(10, .long x12), (8, .long x16), (0, .ref h), (1, .int x1), (2, .int x2), (3, .int x3), (4, .long x4), (6, .long x6), (12, .long x12), (16, .long x16)]) hx hb dX4_near_178 hl (by decide) rfl (fun ls hl => ?_)
    exact J180 k67 hk67  mth x1 x2 x3 x4 x6 x16 x12 x12 _ _ _ hf hP hD hS (lv_sub hl [2, 3, 4, 5, 6, 7, 1, 0, 8] rfl)
  have J149 : ∀ (k67 : Int32 → Int32 → Int32 → Int32 → Int64 → Int64 → Int64 → Int64 → Int64 → Option (Int32 × Int32)) (hk67 : ∀ (mth : Int32) (x1 : Int32) (x2 : Int32) (x3 : Int32) (x4 : Int64) (x6 : Int64) (x8 : Int64) (x10 : Int64) (x12 : Int64) (H : Heap) (locs : List Loc) (ls : Array Slot), k67 mth x1 x2 x3 x4 x6 x8 x10 x12 = some (rv, o_mth) → va_P G vwCl [(h, .inr (4, [.int mth, .int mtp, .int mbt, .int mmn, .ref a5, .int mrs, .ref a6, .long mlt, .long mlb, .long mht, .long mhb])), (a5, .inl (cI, 64, .inl mte)), (a6, .inl (cI, 64, .inl mru))] H → va_D A [(h, .inr (4, [.int mth, .int mtp, .int mbt, .int mmn, .ref a5, .int mrs, .ref a6, .long mlt, .long mlb, .long mht, .long mhb])), (a5, .inl (cI, 64, .inl mte)), (a6, .inl (cI, 64, .inl mru))] → va_S A s.heap H locs → lv_has ls 18 [(0, .ref h), (1, .int x1), (2, .int x2), (3, .int x3), (4, .long x4), (6, .long x6), (8, .long x8), (10, .long x10), (12, .long x12)] → W p l e (headSpec wsX4_near ({ frames := 1, cells := 0, slots := 0, locals := 25 })).room s m ([.ref h, .int p1, .int p2, .int p3].toArray) below meth c H locs 0 0 (Qf (rv, o_mth)) (F0 m 67 ls [])) (mth : Int32) (x1 : Int32) (x2 : Int32) (x3 : Int32) (x4 : Int64) (x6 : Int64) (x8 : Int64) (x10 : Int64) (x12 : Int64) (y0 : Int64) (H : Heap) (locs : List Loc) (ls : Array Slot), fX4_near_J149 k67 mtp mbt mth x1 x2 x3 x4 x6 x8 x10 x12 y0 = some (rv, o_mth) → va_P G vwCl [(h, .inr (4, [.int mth, .int mtp, .int mbt, .int mmn, .ref a5, .int mrs, .ref a6, .long mlt, .long mlb, .long mht, .long mhb])), (a5, .inl (cI, 64, .inl mte)), (a6, .inl (cI, 64, .inl mru))] H → va_D A [(h, .inr (4, [.int mth, .int mtp, .int mbt, .int mmn, .ref a5, .int mrs, .ref a6, .long mlt, .long mlb, .long mht, .long mhb])), (a5, .inl (cI, 64, .inl mte)), (a6, .inl (cI, 64, .inl mru))] → va_S A s.heap H locs → lv_has ls 18 [(0, .ref h), (1, .int x1), (2, .int x2), (3, .int x3), (4, .long x4), (6, .long x6), (8, .long x8), (10, .long x10), (12, .long x12)] → W p l e (headSpec wsX4_near ({ frames := 1, cells := 0, slots := 0, locals := 25 })).room s m ([.ref h, .int p1, .int p2, .int p3].toArray) below meth c H locs 0 0 (Qf (rv, o_mth)) (F0 m 149 ls [.long y0]) := by
    intro k67 hk67  mth x1 x2 x3 x4 x6 x8 x10 x12 y0 H locs ls hf hP hD hS hl
    unfold fX4_near_J149 at hf
    refine lv_lstore (lv' := [(16, .long y0), (0, .ref h), (1, .int x1), (2, .int x2), (3, .int x3), (4, .long x4), (6, .long x6), (8, .long x8), (10, .long x10), (12, .long x12)]) hx hb dX4_near_149 hl (by decide) rfl (fun ls hl => ?_)
    refine lv_lload hx hb dX4_near_151 (lv_at hl 8 rfl) ?_
    refine lv_lconst (v := 0) hx hb dX4_near_153 (by decide) ?_
    refine W.lcmp hx hb dX4_near_154 ?_
    refine lv_if_eq (tgt := 172) hx hb dX4_near_155 (by decide) (fun c155 => ?_) (fun c155 => ?_)
    · have hf := it_t c155 hf
      exact J172 k67 hk67  mth x1 x2 x3 x4 x6 x12 y0 _ _ _ hf hP hD hS (lv_sub hl [1, 2, 3, 4, 5, 6, 9, 0] rfl)
    · have hf := it_f c155 hf
      refine lv_lload hx hb dX4_near_158 (lv_at hl 0 rfl) ?_
      refine lv_lload hx hb dX4_near_160 (lv_at hl 8 rfl) ?_
      refine lv_lmul hx hb dX4_near_162 ?_
      refine lv_lload hx hb dX4_near_163 (lv_at hl 7 rfl) ?_
      refine lv_lload hx hb dX4_near_165 (lv_at hl 9 rfl) ?_
      refine lv_lmul hx hb dX4_near_167 ?_
      refine W.lcmp hx hb dX4_near_168 ?_
      refine lv_if_ge (tgt := 180) hx hb dX4_near_169 (by decide) (fun c169 => ?_) (fun c169 => ?_)
      · have hf := it_t c169 hf
        exact J180 k67 hk67  mth x1 x2 x3 x4 x6 x8 x10 x12 _ _ _ hf hP hD hS (lv_sub hl [1, 2, 3, 4, 5, 6, 7, 8, 9] rfl)
      · have hf := it_f c169 hf
        exact J172 k67 hk67  mth x1 x2 x3 x4 x6 x12 y0 _ _ _ hf hP hD hS (lv_sub hl [1, 2, 3, 4, 5, 6, 9, 0] rfl)
  have J120 : ∀ (k67 : Int32 → Int32 → Int32 → Int32 → Int64 → Int64 → Int64 → Int64 → Int64 → Option (Int32 × Int32)) (hk67 : ∀ (mth : Int32) (x1 : Int32) (x2 : Int32) (x3 : Int32) (x4 : Int64) (x6 : Int64) (x8 : Int64) (x10 : Int64) (x12 : Int64) (H : Heap) (locs : List Loc) (ls : Array Slot), k67 mth x1 x2 x3 x4 x6 x8 x10 x12 = some (rv, o_mth) → va_P G vwCl [(h, .inr (4, [.int mth, .int mtp, .int mbt, .int mmn, .ref a5, .int mrs, .ref a6, .long mlt, .long mlb, .long mht, .long mhb])), (a5, .inl (cI, 64, .inl mte)), (a6, .inl (cI, 64, .inl mru))] H → va_D A [(h, .inr (4, [.int mth, .int mtp, .int mbt, .int mmn, .ref a5, .int mrs, .ref a6, .long mlt, .long mlb, .long mht, .long mhb])), (a5, .inl (cI, 64, .inl mte)), (a6, .inl (cI, 64, .inl mru))] → va_S A s.heap H locs → lv_has ls 18 [(0, .ref h), (1, .int x1), (2, .int x2), (3, .int x3), (4, .long x4), (6, .long x6), (8, .long x8), (10, .long x10), (12, .long x12)] → W p l e (headSpec wsX4_near ({ frames := 1, cells := 0, slots := 0, locals := 25 })).room s m ([.ref h, .int p1, .int p2, .int p3].toArray) below meth c H locs 0 0 (Qf (rv, o_mth)) (F0 m 67 ls [])) (mth : Int32) (x1 : Int32) (x2 : Int32) (x3 : Int32) (x4 : Int64) (x6 : Int64) (x8 : Int64) (x10 : Int64) (x12 : Int64) (x14 : Int64) (H : Heap) (locs : List Loc) (ls : Array Slot), fX4_near_J120 k67 mtp mbt mth x1 x2 x3 x4 x6 x8 x10 x12 x14 = some (rv, o_mth) → va_P G vwCl [(h, .inr (4, [.int mth, .int mtp, .int mbt, .int mmn, .ref a5, .int mrs, .ref a6, .long mlt, .long mlb, .long mht, .long mhb])), (a5, .inl (cI, 64, .inl mte)), (a6, .inl (cI, 64, .inl mru))] H → va_D A [(h, .inr (4, [.int mth, .int mtp, .int mbt, .int mmn, .ref a5, .int mrs, .ref a6, .long mlt, .long mlb, .long mht, .long mhb])), (a5, .inl (cI, 64, .inl mte)), (a6, .inl (cI, 64, .inl mru))] → va_S A s.heap H locs → lv_has ls 18 [(0, .ref h), (1, .int x1), (2, .int x2), (3, .int x3), (4, .long x4), (6, .long x6), (8, .long x8), (10, .long x10), (12, .long x12), (14, .long x14)] → W p l e (headSpec wsX4_near ({ frames := 1, cells := 0, slots := 0, locals := 25 })).room s m ([.ref h, .int p1, .int p2, .int p3].toArray) below meth c H locs 0 0 (Qf (rv, o_mth)) (F0 m 120 ls []) := by
    intro k67 hk67  mth x1 x2 x3 x4 x6 x8 x10 x12 x14 H locs ls hf hP hD hS hl
    unfold fX4_near_J120 at hf
    refine lv_lload hx hb dX4_near_120 (lv_at hl 9 rfl) ?_
    refine lv_aload_n hx hb dX4_near_122 rfl (lv_at hl 0 rfl) ?_
    refine va_get (D := G) (ci := 4) (v := .int mbt) (C := RX4) (T := TX4) (N := 11) hx hb hts hinX4 hown hK.1 hP 0 rfl rfl 2 (by decide) w5 (fun _ h9 => h9) rfl dX4_near_123 ?_
    refine lv_i2l hx hb dX4_near_126 rfl ?_
    refine lv_lmul hx hb dX4_near_127 ?_
    refine lv_aload_n hx hb dX4_near_128 rfl (lv_at hl 0 rfl) ?_
    refine va_get (D := G) (ci := 4) (v := .int mtp) (C := RX4) (T := TX4) (N := 11) hx hb hts hinX4 hown hK.1 hP 0 rfl rfl 1 (by decide) w4 (fun _ h9 => h9) rfl dX4_near_129 ?_
    refine lv_i2l hx hb dX4_near_132 rfl ?_
    refine lv_lload hx hb dX4_near_133 (lv_at hl 8 rfl) ?_
    refine lv_lmul hx hb dX4_near_135 ?_
    refine W.lcmp hx hb dX4_near_136 ?_
    refine lv_if_ne (tgt := 145) hx hb dX4_near_137 (by decide) (fun c137 => ?_) (fun c137 => ?_)
    · have hf := it_f c137 hf
      refine lv_lload hx hb dX4_near_145 (lv_at hl 9 rfl) ?_
      refine lv_lconst (v := 1) hx hb dX4_near_147 (by decide) ?_
      refine lv_ladd hx hb dX4_near_148 ?_
      exact J149 k67 hk67  mth x1 x2 x3 x4 x6 x8 x10 x12 (x14 + 1) _ _ _ hf hP hD hS (lv_sub hl [0, 1, 2, 3, 4, 5, 6, 7, 8] rfl)
    · have hf := it_t c137 hf
      refine lv_lload hx hb dX4_near_140 (lv_at hl 9 rfl) ?_
      refine lv_goto (tgt := 149) hx hb dX4_near_142 (by decide) ?_
      exact J149 k67 hk67  mth x1 x2 x3 x4 x6 x8 x10 x12 x14 _ _ _ hf hP hD hS (lv_sub hl [0, 1, 2, 3, 4, 5, 6, 7, 8] rfl)
  have J112 : ∀ (k67 : Int32 → Int32 → Int32 → Int32 → Int64 → Int64 → Int64 → Int64 → Int64 → Option (Int32 × Int32)) (hk67 : ∀ (mth : Int32) (x1 : Int32) (x2 : Int32) (x3 : Int32) (x4 : Int64) (x6 : Int64) (x8 : Int64) (x10 : Int64) (x12 : Int64) (H : Heap) (locs : List Loc) (ls : Array Slot), k67 mth x1 x2 x3 x4 x6 x8 x10 x12 = some (rv, o_mth) → va_P G vwCl [(h, .inr (4, [.int mth, .int mtp, .int mbt, .int mmn, .ref a5, .int mrs, .ref a6, .long mlt, .long mlb, .long mht, .long mhb])), (a5, .inl (cI, 64, .inl mte)), (a6, .inl (cI, 64, .inl mru))] H → va_D A [(h, .inr (4, [.int mth, .int mtp, .int mbt, .int mmn, .ref a5, .int mrs, .ref a6, .long mlt, .long mlb, .long mht, .long mhb])), (a5, .inl (cI, 64, .inl mte)), (a6, .inl (cI, 64, .inl mru))] → va_S A s.heap H locs → lv_has ls 18 [(0, .ref h), (1, .int x1), (2, .int x2), (3, .int x3), (4, .long x4), (6, .long x6), (8, .long x8), (10, .long x10), (12, .long x12)] → W p l e (headSpec wsX4_near ({ frames := 1, cells := 0, slots := 0, locals := 25 })).room s m ([.ref h, .int p1, .int p2, .int p3].toArray) below meth c H locs 0 0 (Qf (rv, o_mth)) (F0 m 67 ls [])) (mth : Int32) (x1 : Int32) (x2 : Int32) (x3 : Int32) (x8 : Int64) (x10 : Int64) (x12 : Int64) (x14 : Int64) (H : Heap) (locs : List Loc) (ls : Array Slot), fX4_near_J112 k67 mtp mbt mth x1 x2 x3 x8 x10 x12 x14 = some (rv, o_mth) → va_P G vwCl [(h, .inr (4, [.int mth, .int mtp, .int mbt, .int mmn, .ref a5, .int mrs, .ref a6, .long mlt, .long mlb, .long mht, .long mhb])), (a5, .inl (cI, 64, .inl mte)), (a6, .inl (cI, 64, .inl mru))] H → va_D A [(h, .inr (4, [.int mth, .int mtp, .int mbt, .int mmn, .ref a5, .int mrs, .ref a6, .long mlt, .long mlb, .long mht, .long mhb])), (a5, .inl (cI, 64, .inl mte)), (a6, .inl (cI, 64, .inl mru))] → va_S A s.heap H locs → lv_has ls 18 [(0, .ref h), (1, .int x1), (2, .int x2), (3, .int x3), (8, .long x8), (10, .long x10), (12, .long x12), (14, .long x14)] → W p l e (headSpec wsX4_near ({ frames := 1, cells := 0, slots := 0, locals := 25 })).room s m ([.ref h, .int p1, .int p2, .int p3].toArray) below meth c H locs 0 0 (Qf (rv, o_mth)) (F0 m 112 ls []) := by
    intro k67 hk67  mth x1 x2 x3 x8 x10 x12 x14 H locs ls hf hP hD hS hl
    unfold fX4_near_J112 at hf
    refine lv_lload hx hb dX4_near_112 (lv_at hl 7 rfl) ?_
    refine lv_lstore (lv' := [(4, .long x14), (0, .ref h), (1, .int x1), (2, .int x2), (3, .int x3), (8, .long x8), (10, .long x10), (12, .long x12), (14, .long x14)]) hx hb dX4_near_114 hl (by decide) rfl (fun ls hl => ?_)
    refine lv_lload hx hb dX4_near_116 (lv_at hl 7 rfl) ?_
    refine lv_lstore (lv' := [(6, .long x12), (4, .long x14), (0, .ref h), (1, .int x1), (2, .int x2), (3, .int x3), (8, .long x8), (10, .long x10), (12, .long x12), (14, .long x14)]) hx hb dX4_near_118 hl (by decide) rfl (fun ls hl => ?_)
    exact J120 k67 hk67  mth x1 x2 x3 x14 x12 x8 x10 x12 x14 _ _ _ hf hP hD hS (lv_sub hl [2, 3, 4, 5, 1, 0, 6, 7, 8, 9] rfl)
  have B67 : ∀ (k67 : Int32 → Int32 → Int32 → Int32 → Int64 → Int64 → Int64 → Int64 → Int64 → Option (Int32 × Int32)) (hk67 : ∀ (mth : Int32) (x1 : Int32) (x2 : Int32) (x3 : Int32) (x4 : Int64) (x6 : Int64) (x8 : Int64) (x10 : Int64) (x12 : Int64) (H : Heap) (locs : List Loc) (ls : Array Slot), k67 mth x1 x2 x3 x4 x6 x8 x10 x12 = some (rv, o_mth) → va_P G vwCl [(h, .inr (4, [.int mth, .int mtp, .int mbt, .int mmn, .ref a5, .int mrs, .ref a6, .long mlt, .long mlb, .long mht, .long mhb])), (a5, .inl (cI, 64, .inl mte)), (a6, .inl (cI, 64, .inl mru))] H → va_D A [(h, .inr (4, [.int mth, .int mtp, .int mbt, .int mmn, .ref a5, .int mrs, .ref a6, .long mlt, .long mlb, .long mht, .long mhb])), (a5, .inl (cI, 64, .inl mte)), (a6, .inl (cI, 64, .inl mru))] → va_S A s.heap H locs → lv_has ls 18 [(0, .ref h), (1, .int x1), (2, .int x2), (3, .int x3), (4, .long x4), (6, .long x6), (8, .long x8), (10, .long x10), (12, .long x12)] → W p l e (headSpec wsX4_near ({ frames := 1, cells := 0, slots := 0, locals := 25 })).room s m ([.ref h, .int p1, .int p2, .int p3].toArray) below meth c H locs 0 0 (Qf (rv, o_mth)) (F0 m 67 ls [])) (mth : Int32) (x1 : Int32) (x2 : Int32) (x3 : Int32) (x4 : Int64) (x6 : Int64) (x8 : Int64) (x10 : Int64) (x12 : Int64) (H : Heap) (locs : List Loc) (ls : Array Slot), fX4_near_B67 k67 mtp mbt mth x1 x2 x3 x4 x6 x8 x10 x12 = some (rv, o_mth) → va_P G vwCl [(h, .inr (4, [.int mth, .int mtp, .int mbt, .int mmn, .ref a5, .int mrs, .ref a6, .long mlt, .long mlb, .long mht, .long mhb])), (a5, .inl (cI, 64, .inl mte)), (a6, .inl (cI, 64, .inl mru))] H → va_D A [(h, .inr (4, [.int mth, .int mtp, .int mbt, .int mmn, .ref a5, .int mrs, .ref a6, .long mlt, .long mlb, .long mht, .long mhb])), (a5, .inl (cI, 64, .inl mte)), (a6, .inl (cI, 64, .inl mru))] → va_S A s.heap H locs → lv_has ls 18 [(0, .ref h), (1, .int x1), (2, .int x2), (3, .int x3), (4, .long x4), (6, .long x6), (8, .long x8), (10, .long x10), (12, .long x12)] → W p l e (headSpec wsX4_near ({ frames := 1, cells := 0, slots := 0, locals := 25 })).room s m ([.ref h, .int p1, .int p2, .int p3].toArray) below meth c H locs 0 0 (Qf (rv, o_mth)) (F0 m 67 ls []) := by
    intro k67 hk67  mth x1 x2 x3 x4 x6 x8 x10 x12 H locs ls hf hP hD hS hl
    unfold fX4_near_B67 at hf
    refine lv_lload hx hb dX4_near_67 (lv_at hl 8 rfl) ?_
    refine lv_iload_n hx hb dX4_near_69 rfl (lv_at hl 1 rfl) ?_
    refine lv_i2l hx hb dX4_near_70 rfl ?_
    refine W.lcmp hx hb dX4_near_71 ?_
    refine lv_if_gt (tgt := 189) hx hb dX4_near_72 (by decide) (fun c72 => ?_) (fun c72 => ?_)
    · have hf := it_t c72 hf
      refine lv_aload_n hx hb dX4_near_189 rfl (lv_at hl 0 rfl) ?_
      refine va_get (D := G) (ci := 4) (v := .int mtp) (C := RX4) (T := TX4) (N := 11) hx hb hts hinX4 hown hK.1 hP 0 rfl rfl 1 (by decide) w4 (fun _ h9 => h9) rfl dX4_near_190 ?_
      refine lv_i2l hx hb dX4_near_193 rfl ?_
      refine lv_lload hx hb dX4_near_194 (lv_at hl 5 rfl) ?_
      refine lv_lmul hx hb dX4_near_196 ?_
      refine lv_lload hx hb dX4_near_197 (lv_at hl 4 rfl) ?_
      refine lv_aload_n hx hb dX4_near_199 rfl (lv_at hl 0 rfl) ?_
      refine va_get (D := G) (ci := 4) (v := .int mbt) (C := RX4) (T := TX4) (N := 11) hx hb hts hinX4 hown hK.1 hP 0 rfl rfl 2 (by decide) w5 (fun _ h9 => h9) rfl dX4_near_200 ?_
      refine lv_i2l hx hb dX4_near_203 rfl ?_
      refine lv_lmul hx hb dX4_near_204 ?_
      refine lv_lsub hx hb dX4_near_205 ?_
      refine lv_lload hx hb dX4_near_206 (lv_at hl 7 rfl) ?_
      refine lv_lmul hx hb dX4_near_208 ?_
      refine lv_topl (fun v209 ev209 => ?_)
      have hf := nm_s ev209 hf
      refine lv_lstore (lv' := [(12, .long v209), (0, .ref h), (1, .int x1), (2, .int x2), (3, .int x3), (4, .long x4), (6, .long x6), (8, .long x8), (10, .long x10)]) hx hb dX4_near_209 hl (by decide) rfl (fun ls hl => ?_)
      refine lv_lload hx hb dX4_near_211 (lv_at hl 7 rfl) ?_
      refine lv_aload_n hx hb dX4_near_213 rfl (lv_at hl 1 rfl) ?_
      refine va_get (D := G) (ci := 4) (v := .int mbt) (C := RX4) (T := TX4) (N := 11) hx hb hts hinX4 hown hK.1 hP 0 rfl rfl 2 (by decide) w5 (fun _ h9 => h9) rfl dX4_near_214 ?_
      refine lv_i2l hx hb dX4_near_217 rfl ?_
      refine lv_lmul hx hb dX4_near_218 ?_
      refine lv_aload_n hx hb dX4_near_219 rfl (lv_at hl 1 rfl) ?_
      refine va_get (D := G) (ci := 4) (v := .int mtp) (C := RX4) (T := TX4) (N := 11) hx hb hts hinX4 hown hK.1 hP 0 rfl rfl 1 (by decide) w4 (fun _ h9 => h9) rfl dX4_near_220 ?_
      refine lv_i2l hx hb dX4_near_223 rfl ?_
      refine lv_lload hx hb dX4_near_224 (lv_at hl 8 rfl) ?_
      refine lv_lmul hx hb dX4_near_226 ?_
      refine lv_lsub hx hb dX4_near_227 ?_
      refine lv_lload hx hb dX4_near_228 (lv_at hl 6 rfl) ?_
      refine lv_lmul hx hb dX4_near_230 ?_
      refine lv_topl (fun v231 ev231 => ?_)
      have hf := nm_s ev231 hf
      refine lv_lstore (lv' := [(14, .long v231), (12, .long v209), (0, .ref h), (1, .int x1), (2, .int x2), (3, .int x3), (4, .long x4), (6, .long x6), (8, .long x8), (10, .long x10)]) hx hb dX4_near_231 hl (by decide) rfl (fun ls hl => ?_)
      refine lv_iload_n hx hb dX4_near_233 rfl (lv_at hl 4 rfl) ?_
      refine lv_if_eq (tgt := 266) hx hb dX4_near_234 (by decide) (fun c234 => ?_) (fun c234 => ?_)
      · have hf := it_t c234 hf
        exact J266   mth x3 x4 x6 x8 x10 _ _ _ hf hP hD hS (lv_sub hl [5, 6, 7, 8, 9] rfl)
      · have hf := it_f c234 hf
        refine lv_iload_n hx hb dX4_near_237 rfl (lv_at hl 4 rfl) ?_
        refine lv_iconst (v := 2) hx hb dX4_near_238 (by decide) ?_
        refine lv_icmp_ne (tgt := 270) hx hb dX4_near_239 (by decide) (fun c239 => ?_) (fun c239 => ?_)
        · have hf := it_f c239 hf
          exact J270   mth x3 x4 x6 x8 x10 _ _ _ hf hP hD hS (lv_sub hl [5, 6, 7, 8, 9] rfl)
        · have hf := it_t c239 hf
          refine lv_lload hx hb dX4_near_242 (lv_at hl 1 rfl) ?_
          refine lv_lload hx hb dX4_near_244 (lv_at hl 0 rfl) ?_
          refine W.lcmp hx hb dX4_near_246 ?_
          refine lv_if_lt (tgt := 266) hx hb dX4_near_247 (by decide) (fun c247 => ?_) (fun c247 => ?_)
          · have hf := it_t c247 hf
            exact J266   mth x3 x4 x6 x8 x10 _ _ _ hf hP hD hS (lv_sub hl [5, 6, 7, 8, 9] rfl)
          · have hf := it_f c247 hf
            refine lv_lload hx hb dX4_near_250 (lv_at hl 1 rfl) ?_
            refine lv_lload hx hb dX4_near_252 (lv_at hl 0 rfl) ?_
            refine W.lcmp hx hb dX4_near_254 ?_
            refine lv_if_ne (tgt := 270) hx hb dX4_near_255 (by decide) (fun c255 => ?_) (fun c255 => ?_)
            · have hf := it_f c255 hf
              exact J270   mth x3 x4 x6 x8 x10 _ _ _ hf hP hD hS (lv_sub hl [5, 6, 7, 8, 9] rfl)
            · have hf := it_t c255 hf
              refine lv_lload hx hb dX4_near_258 (lv_at hl 7 rfl) ?_
              refine lv_lload hx hb dX4_near_260 (lv_at hl 9 rfl) ?_
              refine W.lcmp hx hb dX4_near_262 ?_
              refine lv_if_gt (tgt := 270) hx hb dX4_near_263 (by decide) (fun c263 => ?_) (fun c263 => ?_)
              · have hf := it_t c263 hf
                exact J270   mth x3 x4 x6 x8 x10 _ _ _ hf hP hD hS (lv_sub hl [5, 6, 7, 8, 9] rfl)
              · have hf := it_f c263 hf
                exact J266   mth x3 x4 x6 x8 x10 _ _ _ hf hP hD hS (lv_sub hl [5, 6, 7, 8, 9] rfl)
    · have hf := it_f c72 hf
      refine lv_aload_n hx hb dX4_near_75 rfl (lv_at hl 0 rfl) ?_
      refine va_get (D := G) (ci := 4) (v := .int mtp) (C := RX4) (T := TX4) (N := 11) hx hb hts hinX4 hown hK.1 hP 0 rfl rfl 1 (by decide) w4 (fun _ h9 => h9) rfl dX4_near_76 ?_
      refine lv_i2l hx hb dX4_near_79 rfl ?_
      refine lv_lload hx hb dX4_near_80 (lv_at hl 8 rfl) ?_
      refine lv_lmul hx hb dX4_near_82 ?_
      refine lv_aload_n hx hb dX4_near_83 rfl (lv_at hl 0 rfl) ?_
      refine va_get (D := G) (ci := 4) (v := .int mbt) (C := RX4) (T := TX4) (N := 11) hx hb hts hinX4 hown hK.1 hP 0 rfl rfl 2 (by decide) w5 (fun _ h9 => h9) rfl dX4_near_84 ?_
      refine lv_i2l hx hb dX4_near_87 rfl ?_
      obtain ⟨hz88, hf⟩ := ckL_s hf
      refine lv_ldiv hx hb dX4_near_88 hz88 ?_
      refine lv_topl (fun v89 ev89 => ?_)
      have hf := nm_s ev89 hf
      refine lv_lstore (lv' := [(14, .long v89), (0, .ref h), (1, .int x1), (2, .int x2), (3, .int x3), (4, .long x4), (6, .long x6), (8, .long x8), (10, .long x10), (12, .long x12)]) hx hb dX4_near_89 hl (by decide) rfl (fun ls hl => ?_)
      refine lv_lload hx hb dX4_near_91 (lv_at hl 6 rfl) ?_
      refine lv_lconst (v := 0) hx hb dX4_near_93 (by decide) ?_
      refine W.lcmp hx hb dX4_near_94 ?_
      refine lv_if_eq (tgt := 112) hx hb dX4_near_95 (by decide) (fun c95 => ?_) (fun c95 => ?_)
      · have hf := it_t c95 hf
        exact J112 k67 hk67  mth x1 x2 x3 x8 x10 x12 v89 _ _ _ hf hP hD hS (lv_sub hl [1, 2, 3, 4, 7, 8, 9, 0] rfl)
      · have hf := it_f c95 hf
        refine lv_lload hx hb dX4_near_98 (lv_at hl 0 rfl) ?_
        refine lv_lload hx hb dX4_near_100 (lv_at hl 6 rfl) ?_
        refine lv_lmul hx hb dX4_near_102 ?_
        refine lv_lload hx hb dX4_near_103 (lv_at hl 5 rfl) ?_
        refine lv_lload hx hb dX4_near_105 (lv_at hl 9 rfl) ?_
        refine lv_lmul hx hb dX4_near_107 ?_
        refine W.lcmp hx hb dX4_near_108 ?_
        refine lv_if_le (tgt := 120) hx hb dX4_near_109 (by decide) (fun c109 => ?_) (fun c109 => ?_)
        · have hf := it_t c109 hf
          exact J120 k67 hk67  mth x1 x2 x3 x4 x6 x8 x10 x12 v89 _ _ _ hf hP hD hS (lv_sub hl [1, 2, 3, 4, 5, 6, 7, 8, 9, 0] rfl)
        · have hf := it_f c109 hf
          exact J112 k67 hk67  mth x1 x2 x3 x8 x10 x12 v89 _ _ _ hf hP hD hS (lv_sub hl [1, 2, 3, 4, 7, 8, 9, 0] rfl)
  have L67 : ∀ (fu : Nat) (mth : Int32) (x1 : Int32) (x2 : Int32) (x3 : Int32) (x4 : Int64) (x6 : Int64) (x8 : Int64) (x10 : Int64) (x12 : Int64) (H : Heap) (locs : List Loc) (ls : Array Slot), fX4_near_L67  mtp mbt fu mth x1 x2 x3 x4 x6 x8 x10 x12 = some (rv, o_mth) → va_P G vwCl [(h, .inr (4, [.int mth, .int mtp, .int mbt, .int mmn, .ref a5, .int mrs, .ref a6, .long mlt, .long mlb, .long mht, .long mhb])), (a5, .inl (cI, 64, .inl mte)), (a6, .inl (cI, 64, .inl mru))] H → va_D A [(h, .inr (4, [.int mth, .int mtp, .int mbt, .int mmn, .ref a5, .int mrs, .ref a6, .long mlt, .long mlb, .long mht, .long mhb])), (a5, .inl (cI, 64, .inl mte)), (a6, .inl (cI, 64, .inl mru))] → va_S A s.heap H locs → lv_has ls 18 [(0, .ref h), (1, .int x1), (2, .int x2), (3, .int x3), (4, .long x4), (6, .long x6), (8, .long x8), (10, .long x10), (12, .long x12)] → W p l e (headSpec wsX4_near ({ frames := 1, cells := 0, slots := 0, locals := 25 })).room s m ([.ref h, .int p1, .int p2, .int p3].toArray) below meth c H locs 0 0 (Qf (rv, o_mth)) (F0 m 67 ls []) := by
    intro  fu
    induction fu with
    | zero => intro  mth x1 x2 x3 x4 x6 x8 x10 x12 H locs ls hf; cases hf
    | succ fu ih => intro  mth x1 x2 x3 x4 x6 x8 x10 x12 H locs ls hf hP hD hS hl; exact B67 (fX4_near_L67  mtp mbt fu) ih  mth x1 x2 x3 x4 x6 x8 x10 x12 _ _ _ hf hP hD hS hl
  have J40 : ∀ (mth : Int32) (x1 : Int32) (x2 : Int32) (x3 : Int32) (y1 : Int32) (H : Heap) (locs : List Loc) (ls : Array Slot), fX4_near_J40  mtp mbt mth x1 x2 x3 y1 = some (rv, o_mth) → va_P G vwCl [(h, .inr (4, [.int mth, .int mtp, .int mbt, .int mmn, .ref a5, .int mrs, .ref a6, .long mlt, .long mlb, .long mht, .long mhb])), (a5, .inl (cI, 64, .inl mte)), (a6, .inl (cI, 64, .inl mru))] H → va_D A [(h, .inr (4, [.int mth, .int mtp, .int mbt, .int mmn, .ref a5, .int mrs, .ref a6, .long mlt, .long mlb, .long mht, .long mhb])), (a5, .inl (cI, 64, .inl mte)), (a6, .inl (cI, 64, .inl mru))] → va_S A s.heap H locs → lv_has ls 18 [(0, .ref h), (1, .int x1), (2, .int x2), (3, .int x3)] → W p l e (headSpec wsX4_near ({ frames := 1, cells := 0, slots := 0, locals := 25 })).room s m ([.ref h, .int p1, .int p2, .int p3].toArray) below meth c H locs 0 0 (Qf (rv, o_mth)) (F0 m 40 ls [.int y1, .ref h]) := by
    intro   mth x1 x2 x3 y1 H locs ls hf hP hD hS hl
    unfold fX4_near_J40 at hf
    refine va_put (D := G) (ci := 4) (v := .int y1) (ty := .int) (C := RX4) (T := TX4) (N := 11) hx hb hts hinX4 tyX4 tyX4_ok nmX4 hown hK.1 hP hD hS 0 rfl rfl 0 (by decide) w2 (fun _ h9 => h9) rfl (by decide +kernel) rfl rfl (Nat.le_of_ble_eq_true rfl) dX4_near_40 (fun H locs hP hD hS => ?_)
    have hP : va_P G vwCl [(h, .inr (4, [.int y1, .int mtp, .int mbt, .int mmn, .ref a5, .int mrs, .ref a6, .long mlt, .long mlb, .long mht, .long mhb])), (a5, .inl (cI, 64, .inl mte)), (a6, .inl (cI, 64, .inl mru))] H := hP
    have hD : va_D A [(h, .inr (4, [.int y1, .int mtp, .int mbt, .int mmn, .ref a5, .int mrs, .ref a6, .long mlt, .long mlb, .long mht, .long mhb])), (a5, .inl (cI, 64, .inl mte)), (a6, .inl (cI, 64, .inl mru))] := hD
    refine lv_aload_n hx hb dX4_near_43 rfl (lv_at hl 0 rfl) ?_
    refine va_get (D := G) (ci := 4) (v := .int y1) (C := RX4) (T := TX4) (N := 11) hx hb hts hinX4 hown hK.1 hP 0 rfl rfl 0 (by decide) w2 (fun _ h9 => h9) rfl dX4_near_44 ?_
    refine lv_if_le (tgt := 52) hx hb dX4_near_47 (by decide) (fun c47 => ?_) (fun c47 => ?_)
    · have hf := it_t c47 hf
      refine lv_lconst (v := 0) hx hb dX4_near_52 (by decide) ?_
      refine lv_lstore (lv' := [(4, .long 0), (0, .ref h), (1, .int x1), (2, .int x2), (3, .int x3)]) hx hb dX4_near_53 hl (by decide) rfl (fun ls hl => ?_)
      refine lv_lconst (v := 0) hx hb dX4_near_55 (by decide) ?_
      refine lv_lstore (lv' := [(6, .long 0), (4, .long 0), (0, .ref h), (1, .int x1), (2, .int x2), (3, .int x3)]) hx hb dX4_near_56 hl (by decide) rfl (fun ls hl => ?_)
      refine lv_lconst (v := 0) hx hb dX4_near_58 (by decide) ?_
      refine lv_lstore (lv' := [(8, .long 0), (6, .long 0), (4, .long 0), (0, .ref h), (1, .int x1), (2, .int x2), (3, .int x3)]) hx hb dX4_near_59 hl (by decide) rfl (fun ls hl => ?_)
      refine lv_lconst (v := 0) hx hb dX4_near_61 (by decide) ?_
      refine lv_lstore (lv' := [(10, .long 0), (8, .long 0), (6, .long 0), (4, .long 0), (0, .ref h), (1, .int x1), (2, .int x2), (3, .int x3)]) hx hb dX4_near_62 hl (by decide) rfl (fun ls hl => ?_)
      refine lv_lconst (v := 1) hx hb dX4_near_64 (by decide) ?_
      refine lv_lstore (lv' := [(12, .long 1), (10, .long 0), (8, .long 0), (6, .long 0), (4, .long 0), (0, .ref h), (1, .int x1), (2, .int x2), (3, .int x3)]) hx hb dX4_near_65 hl (by decide) rfl (fun ls hl => ?_)
      exact L67  FU  y1 x1 x2 x3 0 0 0 0 1 _ _ _ hf hP hD hS (lv_sub hl [5, 6, 7, 8, 4, 3, 2, 1, 0] rfl)
    · have hf := it_f c47 hf
      refine lv_iconst (v := 0) hx hb dX4_near_50 (by decide) ?_
      refine qf_s (Qf := Qf) hf ?_
      have hP9 : va_P G vwCl [(h, .inr (4, [.int y1, .int mtp, .int mbt, .int mmn, .ref a5, .int mrs, .ref a6, .long mlt, .long mlb, .long mht, .long mhb])), (a5, .inl (cI, 64, .inl mte)), (a6, .inl (cI, 64, .inl mru))] _ := hP.sub [0, 1, 2] rfl
      have hD9 : va_D A [(h, .inr (4, [.int y1, .int mtp, .int mbt, .int mmn, .ref a5, .int mrs, .ref a6, .long mlt, .long mlb, .long mht, .long mhb])), (a5, .inl (cI, 64, .inl mte)), (a6, .inl (cI, 64, .inl mru))] := hD.sub [0, 1, 2] (by decide) rfl
      rw [hQf]
      exact W.iret hx hb hr (fun t ht hW => ⟨⟨_, (), rfl, rfl, by rw [ht]; exact hP9, hD9⟩, hS.F ht⟩) hS.2.2 dX4_near_51
  have J39 : ∀ (mth : Int32) (x1 : Int32) (x2 : Int32) (x3 : Int32) (H : Heap) (locs : List Loc) (ls : Array Slot), fX4_near_J39  mtp mbt mth x1 x2 x3 = some (rv, o_mth) → va_P G vwCl [(h, .inr (4, [.int mth, .int mtp, .int mbt, .int mmn, .ref a5, .int mrs, .ref a6, .long mlt, .long mlb, .long mht, .long mhb])), (a5, .inl (cI, 64, .inl mte)), (a6, .inl (cI, 64, .inl mru))] H → va_D A [(h, .inr (4, [.int mth, .int mtp, .int mbt, .int mmn, .ref a5, .int mrs, .ref a6, .long mlt, .long mlb, .long mht, .long mhb])), (a5, .inl (cI, 64, .inl mte)), (a6, .inl (cI, 64, .inl mru))] → va_S A s.heap H locs → lv_has ls 18 [(0, .ref h), (1, .int x1), (2, .int x2), (3, .int x3)] → W p l e (headSpec wsX4_near ({ frames := 1, cells := 0, slots := 0, locals := 25 })).room s m ([.ref h, .int p1, .int p2, .int p3].toArray) below meth c H locs 0 0 (Qf (rv, o_mth)) (F0 m 39 ls [.ref h]) := by
    intro   mth x1 x2 x3 H locs ls hf hP hD hS hl
    unfold fX4_near_J39 at hf
    refine lv_iconst (v := 1) hx hb dX4_near_39 (by decide) ?_
    exact J40   mth x1 x2 x3 1 _ _ _ hf hP hD hS (lv_sub hl [0, 1, 2, 3] rfl)
  have hl := lv_entry ([.ref h, .int p1, .int p2, .int p3]) (n := 18) (Nat.le_of_ble_eq_true rfl)
  rw [lg_entry_eq]
  generalize (lg_sl ([.ref h, .int p1, .int p2, .int p3]) ++ List.replicate (18 - (lg_sl ([.ref h, .int p1, .int p2, .int p3])).length) Slot.unset).toArray = ls at hl ⊢
  have hl : lv_has ls 18 [(0, .ref h), (1, .int p1), (2, .int p2), (3, .int p3)] := hl
  unfold fX4_near at hf
  refine lv_aload_n hx hb dX4_near_0 rfl (lv_at hl 0 rfl) ?_
  refine lv_iload_n hx hb dX4_near_1 rfl (lv_at hl 1 rfl) ?_
  refine lv_i2l hx hb dX4_near_2 rfl ?_
  refine lv_lconst (v := 1) hx hb dX4_near_3 (by decide) ?_
  refine lv_ldc2 hx hb hown w0 dX4_near_4 ?_
  obtain ⟨r7, hv7, hf⟩ := bd1_s hf
  refine roSi (As := [.long (Int32.toInt64 p1), .long 1, .long 1000]) (rest := [.ref h]) ⟨hx, hb, hml, hown, hts⟩ (zX4_in l G cI _ (Int32.toInt64 p1) 1 1000 hv7) (va_cwS 3 hts gX4_near_X4_in rfl rfl rfl (by decide +kernel) ⟨Nat.le_of_ble_eq_true rfl, Nat.le_of_ble_eq_true rfl⟩) hK hP rfl hl.1 rfl (Nat.le_of_ble_eq_true rfl) dX4_near_7 ⟨Nat.le_of_ble_eq_true rfl, Nat.le_of_ble_eq_true rfl⟩ hS hA (fun H locs hP hz7 hS => ?_)
  refine lv_if_eq (tgt := 39) hx hb dX4_near_10 (by decide) (fun c10 => ?_) (fun c10 => ?_)
  · have hf := it_t c10 hf
    exact J39   mth p1 p2 p3 _ _ _ hf hP hD hS (lv_sub hl [0, 1, 2, 3] rfl)
  · have hf := it_f c10 hf
    refine lv_iload_n hx hb dX4_near_13 rfl (lv_at hl 2 rfl) ?_
    refine lv_i2l hx hb dX4_near_14 rfl ?_
    refine lv_lconst (v := 0) hx hb dX4_near_15 (by decide) ?_
    refine lv_ldc2 hx hb hown w1 dX4_near_16 ?_
    obtain ⟨r19, hv19, hf⟩ := bd1_s hf
    refine roSi (As := [.long (Int32.toInt64 p2), .long 0, .long 2]) (rest := [.ref h]) ⟨hx, hb, hml, hown, hts⟩ (zX4_in l G cI _ (Int32.toInt64 p2) 0 2 hv19) (va_cwS 3 hts gX4_near_X4_in rfl rfl rfl (by decide +kernel) ⟨Nat.le_of_ble_eq_true rfl, Nat.le_of_ble_eq_true rfl⟩) hK hP rfl hl.1 rfl (Nat.le_of_ble_eq_true rfl) dX4_near_19 ⟨Nat.le_of_ble_eq_true rfl, Nat.le_of_ble_eq_true rfl⟩ hS hA (fun H locs hP hz19 hS => ?_)
    refine lv_if_eq (tgt := 39) hx hb dX4_near_22 (by decide) (fun c22 => ?_) (fun c22 => ?_)
    · have hf := it_t c22 hf
      exact J39   mth p1 p2 p3 _ _ _ hf hP hD hS (lv_sub hl [0, 1, 2, 3] rfl)
    · have hf := it_f c22 hf
      refine lv_iload_n hx hb dX4_near_25 rfl (lv_at hl 3 rfl) ?_
      refine lv_i2l hx hb dX4_near_26 rfl ?_
      refine lv_lconst (v := 0) hx hb dX4_near_27 (by decide) ?_
      refine lv_lconst (v := 1) hx hb dX4_near_28 (by decide) ?_
      obtain ⟨r29, hv29, hf⟩ := bd1_s hf
      refine roSi (As := [.long (Int32.toInt64 p3), .long 0, .long 1]) (rest := [.ref h]) ⟨hx, hb, hml, hown, hts⟩ (zX4_in l G cI _ (Int32.toInt64 p3) 0 1 hv29) (va_cwS 3 hts gX4_near_X4_in rfl rfl rfl (by decide +kernel) ⟨Nat.le_of_ble_eq_true rfl, Nat.le_of_ble_eq_true rfl⟩) hK hP rfl hl.1 rfl (Nat.le_of_ble_eq_true rfl) dX4_near_29 ⟨Nat.le_of_ble_eq_true rfl, Nat.le_of_ble_eq_true rfl⟩ hS hA (fun H locs hP hz29 hS => ?_)
      refine lv_if_eq (tgt := 39) hx hb dX4_near_32 (by decide) (fun c32 => ?_) (fun c32 => ?_)
      · have hf := it_t c32 hf
        exact J39   mth p1 p2 p3 _ _ _ hf hP hD hS (lv_sub hl [0, 1, 2, 3] rfl)
      · have hf := it_f c32 hf
        refine lv_iconst (v := 0) hx hb dX4_near_35 (by decide) ?_
        refine lv_goto (tgt := 40) hx hb dX4_near_36 (by decide) ?_
        exact J40   mth p1 p2 p3 0 _ _ _ hf hP hD hS (lv_sub hl [0, 1, 2, 3] rfl)
def fX4_between_B92 (k92 : Int32 → Int32 → Int32 → Int32 → Int32 → Int32 → Int32 → Int32 → Option (Int32 × Int32 × Int32 × Int32)) (mth : Int32) (mtp : Int32) (mbt : Int32) (x1 : Int32) (x2 : Int32) (x3 : Int32) (x4 : Int32) (x6 : Int32) : Option (Int32 × Int32 × Int32 × Int32) :=
  ckZ x2 <|
  if ((((x1 * x6) / x2) + 1) * x4) < (x3 * x6) then
    ckZ x2 <|
    nm (((x1 * x6) / x2) + 1) fun v125 =>
    some (1, mth, v125, x6)
  else
    nm (x6 + 1) fun v110 =>
    k92 mth mtp mbt x1 x2 x3 x4 v110
def fX4_between_L92 : Nat → Int32 → Int32 → Int32 → Int32 → Int32 → Int32 → Int32 → Int32 → Option (Int32 × Int32 × Int32 × Int32)
  | 0, _, _, _, _, _, _, _, _ => none
  | n + 1, mth, mtp, mbt, x1, x2, x3, x4, x6 => fX4_between_B92 (fX4_between_L92   n)  mth mtp mbt x1 x2 x3 x4 x6
def fX4_between_J67 (mth : Int32) (mtp : Int32) (mbt : Int32) (x1 : Int32) (x2 : Int32) (x3 : Int32) (x4 : Int32) (y1 : Int32) : Option (Int32 × Int32 × Int32 × Int32) :=
  if 0 < y1 then
    some (0, y1, mtp, mbt)
  else
    if (x1 * x4) < (x3 * x2) then
      fX4_between_L92   FU y1 mtp mbt x1 x2 x3 x4 1
    else
      some (0, y1, mtp, mbt)
def fX4_between_J54 (mth : Int32) (mtp : Int32) (mbt : Int32) (x1 : Int32) (x2 : Int32) (x3 : Int32) (x4 : Int32) (y0 : Int32) : Option (Int32 × Int32 × Int32 × Int32) :=
  if y0 = 0 then
    fX4_between_J67   mth mtp mbt x1 x2 x3 x4 1
  else
    fX4_between_J67   mth mtp mbt x1 x2 x3 x4 0
def fX4_between_J53 (mth : Int32) (mtp : Int32) (mbt : Int32) (x1 : Int32) (x2 : Int32) (x3 : Int32) (x4 : Int32) : Option (Int32 × Int32 × Int32 × Int32) :=
  fX4_between_J54   mth mtp mbt x1 x2 x3 x4 0
def fX4_between (mth : Int32) (mtp : Int32) (mbt : Int32) (p1 : Int32) (p2 : Int32) (p3 : Int32) (p4 : Int32) : Option (Int32 × Int32 × Int32 × Int32) :=
  bd1 (fX4_in (Int32.toInt64 p1) 0 5000) fun r6 =>
  if r6 = 0 then
    fX4_between_J53   mth mtp mbt p1 p2 p3 p4
  else
    bd1 (fX4_in (Int32.toInt64 p2) 1 5000) fun r18 =>
    if r18 = 0 then
      fX4_between_J53   mth mtp mbt p1 p2 p3 p4
    else
      bd1 (fX4_in (Int32.toInt64 p3) 0 5000) fun r30 =>
      if r30 = 0 then
        fX4_between_J53   mth mtp mbt p1 p2 p3 p4
      else
        bd1 (fX4_in (Int32.toInt64 p4) 1 5000) fun r43 =>
        if r43 = 0 then
          fX4_between_J53   mth mtp mbt p1 p2 p3 p4
        else
          fX4_between_J54   mth mtp mbt p1 p2 p3 p4 1
set_option maxHeartbeats 4000000 in
set_option maxRecDepth 100000 in
theorem zX4_between (l : Launch) (G : va_G) (cI : ClassId) (sz : Nat) (h a5 a6 : Nat) (mth : Int32) (mtp : Int32) (mbt : Int32) (mmn : Int32) (mte : Nat → Int32) (mrs : Int32) (mru : Nat → Int32) (mlt : Int64) (mlb : Int64) (mht : Int64) (mhb : Int64) (p1 : Int32) (p2 : Int32) (p3 : Int32) (p4 : Int32) {rv : Int32} {o_mth : Int32} {o_mtp : Int32} {o_mbt : Int32} (hf : fX4_between mth mtp mbt p1 p2 p3 p4 = some (rv, o_mth, o_mtp, o_mbt)) : mMi l yX4_between wsX4_between ({ frames := 1, cells := 0, slots := 0, locals := 25 }) [.ref h, .int p1, .int p2, .int p3, .int p4] G cI [(h, .inr (4, [.int mth, .int mtp, .int mbt, .int mmn, .ref a5, .int mrs, .ref a6, .long mlt, .long mlb, .long mht, .long mhb])), (a5, .inl (cI, 64, .inl mte)), (a6, .inl (cI, 64, .inl mru))] sz rv [(h, .inr (4, [.int o_mth, .int o_mtp, .int o_mbt, .int mmn, .ref a5, .int mrs, .ref a6, .long mlt, .long mlb, .long mht, .long mhb])), (a5, .inl (cI, 64, .inl mte)), (a6, .inl (cI, 64, .inl mru))] 0 0 := by
  refine Met.ofW (cc := cX4_between) (maxL := 7) (ret := (some .int)) (by decide) rfl ?_
  intro p e s m args below meth c s₁ B hml hv
  obtain ⟨rfl, hsz, hP, hK, hD0⟩ := hv
  have hx := B.exec
  have hb := B.bytes
  have hr := B.returns
  have hts := atoms_spec (ws := wsX4_between) B.pre
  have hown : s.vm.findClass RX4 = some m.cls := findClass_of_methodNamed B.named
  have hlocks := B.notSynchronized
  subst hsz
  have hD := hD0.self (sz := s.heap.size)
  generalize hAe : va_A [(h, .inr (4, [.int mth, .int mtp, .int mbt, .int mmn, .ref a5, .int mrs, .ref a6, .long mlt, .long mlb, .long mht, .long mhb])), (a5, .inl (cI, 64, .inl mte)), (a6, .inl (cI, 64, .inl mru))] s.heap.size = A at hD ⊢
  have hA : ∀ q : Nat, s.heap.size ≤ q → A q := fun q h => by rw [← hAe]; exact Or.inr h
  have hS : va_S A s.heap s.heap [] := va_S.rf
  have w0 := hts (.constantLong RX4 72 (5000)) (by decide +kernel)
  have w1 := hts (.fieldLink RX4 23 "SternDeskModel" "thrown" "I") (by decide +kernel)
  have hinX4 : ∀ w ∈ u_ws RX4 TX4 11, w ∈ wsX4_between := by decide +kernel
  have w3 := hts (.fieldLink RX4 7 "SternDeskModel" "top" "I") (by decide +kernel)
  have w4 := hts (.fieldLink RX4 13 "SternDeskModel" "bottom" "I") (by decide +kernel)
  obtain ⟨Qf, hQf⟩ : ∃ f : (Int32 × Int32 × Int32 × Int32) → State → Prop, f = fun z => MQ below (va_Qi (fun (r : Int32) (_ : Unit) => r = z.1) (fun _ t => va_P G vwCl [(h, .inr (4, [.int z.2.1, .int z.2.2.1, .int z.2.2.2, .int mmn, .ref a5, .int mrs, .ref a6, .long mlt, .long mlb, .long mht, .long mhb])), (a5, .inl (cI, 64, .inl mte)), (a6, .inl (cI, 64, .inl mru))] t.heap ∧ va_D A [(h, .inr (4, [.int z.2.1, .int z.2.2.1, .int z.2.2.2, .int mmn, .ref a5, .int mrs, .ref a6, .long mlt, .long mlb, .long mht, .long mhb])), (a5, .inl (cI, 64, .inl mte)), (a6, .inl (cI, 64, .inl mru))]) A) ([.ref h, .int p1, .int p2, .int p3, .int p4].toArray) s 0 0 A := ⟨_, rfl⟩
  suffices hgo : W p l e (headSpec wsX4_between ({ frames := 1, cells := 0, slots := 0, locals := 25 })).room s m ([.ref h, .int p1, .int p2, .int p3, .int p4].toArray) below meth c s.heap [] 0 0 (Qf (rv, o_mth, o_mtp, o_mbt)) (entryFrame m ([.ref h, .int p1, .int p2, .int p3, .int p4].toArray) 7) by rw [hQf] at hgo; exact hgo
  have B92 : ∀ (k92 : Int32 → Int32 → Int32 → Int32 → Int32 → Int32 → Int32 → Int32 → Option (Int32 × Int32 × Int32 × Int32)) (hk92 : ∀ (mth : Int32) (mtp : Int32) (mbt : Int32) (x1 : Int32) (x2 : Int32) (x3 : Int32) (x4 : Int32) (x6 : Int32) (H : Heap) (locs : List Loc) (ls : Array Slot), k92 mth mtp mbt x1 x2 x3 x4 x6 = some (rv, o_mth, o_mtp, o_mbt) → va_P G vwCl [(h, .inr (4, [.int mth, .int mtp, .int mbt, .int mmn, .ref a5, .int mrs, .ref a6, .long mlt, .long mlb, .long mht, .long mhb])), (a5, .inl (cI, 64, .inl mte)), (a6, .inl (cI, 64, .inl mru))] H → va_D A [(h, .inr (4, [.int mth, .int mtp, .int mbt, .int mmn, .ref a5, .int mrs, .ref a6, .long mlt, .long mlb, .long mht, .long mhb])), (a5, .inl (cI, 64, .inl mte)), (a6, .inl (cI, 64, .inl mru))] → va_S A s.heap H locs → lv_has ls 7 [(0, .ref h), (1, .int x1), (2, .int x2), (3, .int x3), (4, .int x4), (6, .int x6)] → W p l e (headSpec wsX4_between ({ frames := 1, cells := 0, slots := 0, locals := 25 })).room s m ([.ref h, .int p1, .int p2, .int p3, .int p4].toArray) below meth c H locs 0 0 (Qf (rv, o_mth, o_mtp, o_mbt)) (F0 m 92 ls [])) (mth : Int32) (mtp : Int32) (mbt : Int32) (x1 : Int32) (x2 : Int32) (x3 : Int32) (x4 : Int32) (x6 : Int32) (H : Heap) (locs : List Loc) (ls : Array Slot), fX4_between_B92 k92  mth mtp mbt x1 x2 x3 x4 x6 = some (rv, o_mth, o_mtp, o_mbt) → va_P G vwCl [(h, .inr (4, [.int mth, .int mtp, .int mbt, .int mmn, .ref a5, .int mrs, .ref a6, .long mlt, .long mlb, .long mht, .long mhb])), (a5, .inl (cI, 64, .inl mte)), (a6, .inl (cI, 64, .inl mru))] H → va_D A [(h, .inr (4, [.int mth, .int mtp, .int mbt, .int mmn, .ref a5, .int mrs, .ref a6, .long mlt, .long mlb, .long mht, .long mhb])), (a5, .inl (cI, 64, .inl mte)), (a6, .inl (cI, 64, .inl mru))] → va_S A s.heap H locs → lv_has ls 7 [(0, .ref h), (1, .int x1), (2, .int x2), (3, .int x3), (4, .int x4), (6, .int x6)] → W p l e (headSpec wsX4_between ({ frames := 1, cells := 0, slots := 0, locals := 25 })).room s m ([.ref h, .int p1, .int p2, .int p3, .int p4].toArray) below meth c H locs 0 0 (Qf (rv, o_mth, o_mtp, o_mbt)) (F0 m 92 ls []) := by
    intro k92 hk92  mth mtp mbt x1 x2 x3 x4 x6 H locs ls hf hP hD hS hl
    unfold fX4_between_B92 at hf
    refine lv_iload_n hx hb dX4_between_92 rfl (lv_at hl 1 rfl) ?_
    refine lv_iload hx hb dX4_between_93 (lv_at hl 5 rfl) ?_
    refine lv_imul hx hb dX4_between_95 ?_
    refine lv_iload_n hx hb dX4_between_96 rfl (lv_at hl 2 rfl) ?_
    obtain ⟨hz97, hf⟩ := ckZ_s hf
    refine lv_idiv hx hb dX4_between_97 hz97 ?_
    refine lv_iconst (v := 1) hx hb dX4_between_98 (by decide) ?_
    refine lv_iadd hx hb dX4_between_99 ?_
    refine lv_iload hx hb dX4_between_100 (lv_at hl 4 rfl) ?_
    refine lv_imul hx hb dX4_between_102 ?_
    refine lv_iload_n hx hb dX4_between_103 rfl (lv_at hl 3 rfl) ?_
    refine lv_iload hx hb dX4_between_104 (lv_at hl 5 rfl) ?_
    refine lv_imul hx hb dX4_between_106 ?_
    refine lv_icmp_lt (tgt := 116) hx hb dX4_between_107 (by decide) (fun c107 => ?_) (fun c107 => ?_)
    · have hf := it_t c107 hf
      refine lv_aload_n hx hb dX4_between_116 rfl (lv_at hl 0 rfl) ?_
      refine lv_iload_n hx hb dX4_between_117 rfl (lv_at hl 1 rfl) ?_
      refine lv_iload hx hb dX4_between_118 (lv_at hl 5 rfl) ?_
      refine lv_imul hx hb dX4_between_120 ?_
      refine lv_iload_n hx hb dX4_between_121 rfl (lv_at hl 2 rfl) ?_
      obtain ⟨hz122, hf⟩ := ckZ_s hf
      refine lv_idiv hx hb dX4_between_122 hz122 ?_
      refine lv_iconst (v := 1) hx hb dX4_between_123 (by decide) ?_
      refine lv_iadd hx hb dX4_between_124 ?_
      refine lv_topi (fun v125 ev125 => ?_)
      have hf := nm_s ev125 hf
      refine va_put (D := G) (ci := 4) (v := .int v125) (ty := .int) (C := RX4) (T := TX4) (N := 11) hx hb hts hinX4 tyX4 tyX4_ok nmX4 hown hK.1 hP hD hS 0 rfl rfl 1 (by decide) w3 (fun _ h9 => h9) rfl (by decide +kernel) rfl rfl (Nat.le_of_ble_eq_true rfl) dX4_between_125 (fun H locs hP hD hS => ?_)
      have hP : va_P G vwCl [(h, .inr (4, [.int mth, .int v125, .int mbt, .int mmn, .ref a5, .int mrs, .ref a6, .long mlt, .long mlb, .long mht, .long mhb])), (a5, .inl (cI, 64, .inl mte)), (a6, .inl (cI, 64, .inl mru))] H := hP
      have hD : va_D A [(h, .inr (4, [.int mth, .int v125, .int mbt, .int mmn, .ref a5, .int mrs, .ref a6, .long mlt, .long mlb, .long mht, .long mhb])), (a5, .inl (cI, 64, .inl mte)), (a6, .inl (cI, 64, .inl mru))] := hD
      refine lv_aload_n hx hb dX4_between_128 rfl (lv_at hl 0 rfl) ?_
      refine lv_iload hx hb dX4_between_129 (lv_at hl 5 rfl) ?_
      refine va_put (D := G) (ci := 4) (v := .int x6) (ty := .int) (C := RX4) (T := TX4) (N := 11) hx hb hts hinX4 tyX4 tyX4_ok nmX4 hown hK.1 hP hD hS 0 rfl rfl 2 (by decide) w4 (fun _ h9 => h9) rfl (by decide +kernel) rfl rfl (Nat.le_of_ble_eq_true rfl) dX4_between_131 (fun H locs hP hD hS => ?_)
      have hP : va_P G vwCl [(h, .inr (4, [.int mth, .int v125, .int x6, .int mmn, .ref a5, .int mrs, .ref a6, .long mlt, .long mlb, .long mht, .long mhb])), (a5, .inl (cI, 64, .inl mte)), (a6, .inl (cI, 64, .inl mru))] H := hP
      have hD : va_D A [(h, .inr (4, [.int mth, .int v125, .int x6, .int mmn, .ref a5, .int mrs, .ref a6, .long mlt, .long mlb, .long mht, .long mhb])), (a5, .inl (cI, 64, .inl mte)), (a6, .inl (cI, 64, .inl mru))] := hD
      refine lv_iconst (v := 1) hx hb dX4_between_134 (by decide) ?_
      refine qf_s (Qf := Qf) hf ?_
      have hP9 : va_P G vwCl [(h, .inr (4, [.int mth, .int v125, .int x6, .int mmn, .ref a5, .int mrs, .ref a6, .long mlt, .long mlb, .long mht, .long mhb])), (a5, .inl (cI, 64, .inl mte)), (a6, .inl (cI, 64, .inl mru))] _ := hP.sub [0, 1, 2] rfl
      have hD9 : va_D A [(h, .inr (4, [.int mth, .int v125, .int x6, .int mmn, .ref a5, .int mrs, .ref a6, .long mlt, .long mlb, .long mht, .long mhb])), (a5, .inl (cI, 64, .inl mte)), (a6, .inl (cI, 64, .inl mru))] := hD.sub [0, 1, 2] (by decide) rfl
      rw [hQf]
      exact W.iret hx hb hr (fun t ht hW => ⟨⟨_, (), rfl, rfl, by rw [ht]; exact hP9, hD9⟩, hS.F ht⟩) hS.2.2 dX4_between_135
    · have hf := it_f c107 hf
      obtain ⟨v110, ev110⟩ : ∃ y : Int32, y = x6 + 1 := ⟨_, rfl⟩
      have hf := nm_s ev110 hf
      refine lv_iinc (v := v110) (lv' := [(6, .int v110), (0, .ref h), (1, .int x1), (2, .int x2), (3, .int x3), (4, .int x4)]) hx hb dX4_between_110 hl (k := 5) rfl (by rw [ev110]; rfl) (by decide) rfl (fun ls hl => ?_)
      refine lv_goto (tgt := 92) hx hb dX4_between_113 (by decide) ?_
      exact hk92  mth mtp mbt x1 x2 x3 x4 v110 _ _ _ hf hP hD hS (lv_sub hl [1, 2, 3, 4, 5, 0] rfl)
  have L92 : ∀ (fu : Nat) (mth : Int32) (mtp : Int32) (mbt : Int32) (x1 : Int32) (x2 : Int32) (x3 : Int32) (x4 : Int32) (x6 : Int32) (H : Heap) (locs : List Loc) (ls : Array Slot), fX4_between_L92   fu mth mtp mbt x1 x2 x3 x4 x6 = some (rv, o_mth, o_mtp, o_mbt) → va_P G vwCl [(h, .inr (4, [.int mth, .int mtp, .int mbt, .int mmn, .ref a5, .int mrs, .ref a6, .long mlt, .long mlb, .long mht, .long mhb])), (a5, .inl (cI, 64, .inl mte)), (a6, .inl (cI, 64, .inl mru))] H → va_D A [(h, .inr (4, [.int mth, .int mtp, .int mbt, .int mmn, .ref a5, .int mrs, .ref a6, .long mlt, .long mlb, .long mht, .long mhb])), (a5, .inl (cI, 64, .inl mte)), (a6, .inl (cI, 64, .inl mru))] → va_S A s.heap H locs → lv_has ls 7 [(0, .ref h), (1, .int x1), (2, .int x2), (3, .int x3), (4, .int x4), (6, .int x6)] → W p l e (headSpec wsX4_between ({ frames := 1, cells := 0, slots := 0, locals := 25 })).room s m ([.ref h, .int p1, .int p2, .int p3, .int p4].toArray) below meth c H locs 0 0 (Qf (rv, o_mth, o_mtp, o_mbt)) (F0 m 92 ls []) := by
    intro  fu
    induction fu with
    | zero => intro  mth mtp mbt x1 x2 x3 x4 x6 H locs ls hf; cases hf
    | succ fu ih => intro  mth mtp mbt x1 x2 x3 x4 x6 H locs ls hf hP hD hS hl; exact B92 (fX4_between_L92   fu) ih  mth mtp mbt x1 x2 x3 x4 x6 _ _ _ hf hP hD hS hl
  have J67 : ∀ (mth : Int32) (mtp : Int32) (mbt : Int32) (x1 : Int32) (x2 : Int32) (x3 : Int32) (x4 : Int32) (y1 : Int32) (H : Heap) (locs : List Loc) (ls : Array Slot), fX4_between_J67   mth mtp mbt x1 x2 x3 x4 y1 = some (rv, o_mth, o_mtp, o_mbt) → va_P G vwCl [(h, .inr (4, [.int mth, .int mtp, .int mbt, .int mmn, .ref a5, .int mrs, .ref a6, .long mlt, .long mlb, .long mht, .long mhb])), (a5, .inl (cI, 64, .inl mte)), (a6, .inl (cI, 64, .inl mru))] H → va_D A [(h, .inr (4, [.int mth, .int mtp, .int mbt, .int mmn, .ref a5, .int mrs, .ref a6, .long mlt, .long mlb, .long mht, .long mhb])), (a5, .inl (cI, 64, .inl mte)), (a6, .inl (cI, 64, .inl mru))] → va_S A s.heap H locs → lv_has ls 7 [(0, .ref h), (1, .int x1), (2, .int x2), (3, .int x3), (4, .int x4)] → W p l e (headSpec wsX4_between ({ frames := 1, cells := 0, slots := 0, locals := 25 })).room s m ([.ref h, .int p1, .int p2, .int p3, .int p4].toArray) below meth c H locs 0 0 (Qf (rv, o_mth, o_mtp, o_mbt)) (F0 m 67 ls [.int y1, .ref h]) := by
    intro   mth mtp mbt x1 x2 x3 x4 y1 H locs ls hf hP hD hS hl
    unfold fX4_between_J67 at hf
    refine va_put (D := G) (ci := 4) (v := .int y1) (ty := .int) (C := RX4) (T := TX4) (N := 11) hx hb hts hinX4 tyX4 tyX4_ok nmX4 hown hK.1 hP hD hS 0 rfl rfl 0 (by decide) w1 (fun _ h9 => h9) rfl (by decide +kernel) rfl rfl (Nat.le_of_ble_eq_true rfl) dX4_between_67 (fun H locs hP hD hS => ?_)
    have hP : va_P G vwCl [(h, .inr (4, [.int y1, .int mtp, .int mbt, .int mmn, .ref a5, .int mrs, .ref a6, .long mlt, .long mlb, .long mht, .long mhb])), (a5, .inl (cI, 64, .inl mte)), (a6, .inl (cI, 64, .inl mru))] H := hP
    have hD : va_D A [(h, .inr (4, [.int y1, .int mtp, .int mbt, .int mmn, .ref a5, .int mrs, .ref a6, .long mlt, .long mlb, .long mht, .long mhb])), (a5, .inl (cI, 64, .inl mte)), (a6, .inl (cI, 64, .inl mru))] := hD
    refine lv_aload_n hx hb dX4_between_70 rfl (lv_at hl 0 rfl) ?_
    refine va_get (D := G) (ci := 4) (v := .int y1) (C := RX4) (T := TX4) (N := 11) hx hb hts hinX4 hown hK.1 hP 0 rfl rfl 0 (by decide) w1 (fun _ h9 => h9) rfl dX4_between_71 ?_
    refine lv_if_gt (tgt := 87) hx hb dX4_between_74 (by decide) (fun c74 => ?_) (fun c74 => ?_)
    · have hf := it_t c74 hf
      refine lv_iconst (v := 0) hx hb dX4_between_87 (by decide) ?_
      refine qf_s (Qf := Qf) hf ?_
      have hP9 : va_P G vwCl [(h, .inr (4, [.int y1, .int mtp, .int mbt, .int mmn, .ref a5, .int mrs, .ref a6, .long mlt, .long mlb, .long mht, .long mhb])), (a5, .inl (cI, 64, .inl mte)), (a6, .inl (cI, 64, .inl mru))] _ := hP.sub [0, 1, 2] rfl
      have hD9 : va_D A [(h, .inr (4, [.int y1, .int mtp, .int mbt, .int mmn, .ref a5, .int mrs, .ref a6, .long mlt, .long mlb, .long mht, .long mhb])), (a5, .inl (cI, 64, .inl mte)), (a6, .inl (cI, 64, .inl mru))] := hD.sub [0, 1, 2] (by decide) rfl
      rw [hQf]
      exact W.iret hx hb hr (fun t ht hW => ⟨⟨_, (), rfl, rfl, by rw [ht]; exact hP9, hD9⟩, hS.F ht⟩) hS.2.2 dX4_between_88
    · have hf := it_f c74 hf
      refine lv_iload_n hx hb dX4_between_77 rfl (lv_at hl 1 rfl) ?_
      refine lv_iload hx hb dX4_between_78 (lv_at hl 4 rfl) ?_
      refine lv_imul hx hb dX4_between_80 ?_
      refine lv_iload_n hx hb dX4_between_81 rfl (lv_at hl 3 rfl) ?_
      refine lv_iload_n hx hb dX4_between_82 rfl (lv_at hl 2 rfl) ?_
      refine lv_imul hx hb dX4_between_83 ?_
      refine lv_icmp_lt (tgt := 89) hx hb dX4_between_84 (by decide) (fun c84 => ?_) (fun c84 => ?_)
      · have hf := it_t c84 hf
        refine lv_iconst (v := 1) hx hb dX4_between_89 (by decide) ?_
        refine lv_istore (lv' := [(6, .int 1), (0, .ref h), (1, .int x1), (2, .int x2), (3, .int x3), (4, .int x4)]) hx hb dX4_between_90 hl (by decide) rfl (fun ls hl => ?_)
        exact L92  FU  y1 mtp mbt x1 x2 x3 x4 1 _ _ _ hf hP hD hS (lv_sub hl [1, 2, 3, 4, 5, 0] rfl)
      · have hf := it_f c84 hf
        refine lv_iconst (v := 0) hx hb dX4_between_87 (by decide) ?_
        refine qf_s (Qf := Qf) hf ?_
        have hP9 : va_P G vwCl [(h, .inr (4, [.int y1, .int mtp, .int mbt, .int mmn, .ref a5, .int mrs, .ref a6, .long mlt, .long mlb, .long mht, .long mhb])), (a5, .inl (cI, 64, .inl mte)), (a6, .inl (cI, 64, .inl mru))] _ := hP.sub [0, 1, 2] rfl
        have hD9 : va_D A [(h, .inr (4, [.int y1, .int mtp, .int mbt, .int mmn, .ref a5, .int mrs, .ref a6, .long mlt, .long mlb, .long mht, .long mhb])), (a5, .inl (cI, 64, .inl mte)), (a6, .inl (cI, 64, .inl mru))] := hD.sub [0, 1, 2] (by decide) rfl
        rw [hQf]
        exact W.iret hx hb hr (fun t ht hW => ⟨⟨_, (), rfl, rfl, by rw [ht]; exact hP9, hD9⟩, hS.F ht⟩) hS.2.2 dX4_between_88
  have J54 : ∀ (mth : Int32) (mtp : Int32) (mbt : Int32) (x1 : Int32) (x2 : Int32) (x3 : Int32) (x4 : Int32) (y0 : Int32) (H : Heap) (locs : List Loc) (ls : Array Slot), fX4_between_J54   mth mtp mbt x1 x2 x3 x4 y0 = some (rv, o_mth, o_mtp, o_mbt) → va_P G vwCl [(h, .inr (4, [.int mth, .int mtp, .int mbt, .int mmn, .ref a5, .int mrs, .ref a6, .long mlt, .long mlb, .long mht, .long mhb])), (a5, .inl (cI, 64, .inl mte)), (a6, .inl (cI, 64, .inl mru))] H → va_D A [(h, .inr (4, [.int mth, .int mtp, .int mbt, .int mmn, .ref a5, .int mrs, .ref a6, .long mlt, .long mlb, .long mht, .long mhb])), (a5, .inl (cI, 64, .inl mte)), (a6, .inl (cI, 64, .inl mru))] → va_S A s.heap H locs → lv_has ls 7 [(0, .ref h), (1, .int x1), (2, .int x2), (3, .int x3), (4, .int x4)] → W p l e (headSpec wsX4_between ({ frames := 1, cells := 0, slots := 0, locals := 25 })).room s m ([.ref h, .int p1, .int p2, .int p3, .int p4].toArray) below meth c H locs 0 0 (Qf (rv, o_mth, o_mtp, o_mbt)) (F0 m 54 ls [.int y0]) := by
    intro   mth mtp mbt x1 x2 x3 x4 y0 H locs ls hf hP hD hS hl
    unfold fX4_between_J54 at hf
    refine lv_istore (lv' := [(5, .int y0), (0, .ref h), (1, .int x1), (2, .int x2), (3, .int x3), (4, .int x4)]) hx hb dX4_between_54 hl (by decide) rfl (fun ls hl => ?_)
    refine lv_aload_n hx hb dX4_between_56 rfl (lv_at hl 1 rfl) ?_
    refine lv_iload hx hb dX4_between_57 (lv_at hl 0 rfl) ?_
    refine lv_if_eq (tgt := 66) hx hb dX4_between_59 (by decide) (fun c59 => ?_) (fun c59 => ?_)
    · have hf := it_t c59 hf
      refine lv_iconst (v := 1) hx hb dX4_between_66 (by decide) ?_
      exact J67   mth mtp mbt x1 x2 x3 x4 1 _ _ _ hf hP hD hS (lv_sub hl [1, 2, 3, 4, 5] rfl)
    · have hf := it_f c59 hf
      refine lv_iconst (v := 0) hx hb dX4_between_62 (by decide) ?_
      refine lv_goto (tgt := 67) hx hb dX4_between_63 (by decide) ?_
      exact J67   mth mtp mbt x1 x2 x3 x4 0 _ _ _ hf hP hD hS (lv_sub hl [1, 2, 3, 4, 5] rfl)
  have J53 : ∀ (mth : Int32) (mtp : Int32) (mbt : Int32) (x1 : Int32) (x2 : Int32) (x3 : Int32) (x4 : Int32) (H : Heap) (locs : List Loc) (ls : Array Slot), fX4_between_J53   mth mtp mbt x1 x2 x3 x4 = some (rv, o_mth, o_mtp, o_mbt) → va_P G vwCl [(h, .inr (4, [.int mth, .int mtp, .int mbt, .int mmn, .ref a5, .int mrs, .ref a6, .long mlt, .long mlb, .long mht, .long mhb])), (a5, .inl (cI, 64, .inl mte)), (a6, .inl (cI, 64, .inl mru))] H → va_D A [(h, .inr (4, [.int mth, .int mtp, .int mbt, .int mmn, .ref a5, .int mrs, .ref a6, .long mlt, .long mlb, .long mht, .long mhb])), (a5, .inl (cI, 64, .inl mte)), (a6, .inl (cI, 64, .inl mru))] → va_S A s.heap H locs → lv_has ls 7 [(0, .ref h), (1, .int x1), (2, .int x2), (3, .int x3), (4, .int x4)] → W p l e (headSpec wsX4_between ({ frames := 1, cells := 0, slots := 0, locals := 25 })).room s m ([.ref h, .int p1, .int p2, .int p3, .int p4].toArray) below meth c H locs 0 0 (Qf (rv, o_mth, o_mtp, o_mbt)) (F0 m 53 ls []) := by
    intro   mth mtp mbt x1 x2 x3 x4 H locs ls hf hP hD hS hl
    unfold fX4_between_J53 at hf
    refine lv_iconst (v := 0) hx hb dX4_between_53 (by decide) ?_
    exact J54   mth mtp mbt x1 x2 x3 x4 0 _ _ _ hf hP hD hS (lv_sub hl [0, 1, 2, 3, 4] rfl)
  have hl := lv_entry ([.ref h, .int p1, .int p2, .int p3, .int p4]) (n := 7) (Nat.le_of_ble_eq_true rfl)
  rw [lg_entry_eq]
  generalize (lg_sl ([.ref h, .int p1, .int p2, .int p3, .int p4]) ++ List.replicate (7 - (lg_sl ([.ref h, .int p1, .int p2, .int p3, .int p4])).length) Slot.unset).toArray = ls at hl ⊢
  have hl : lv_has ls 7 [(0, .ref h), (1, .int p1), (2, .int p2), (3, .int p3), (4, .int p4)] := hl
  unfold fX4_between at hf
  refine lv_iload_n hx hb dX4_between_0 rfl (lv_at hl 1 rfl) ?_
  refine lv_i2l hx hb dX4_between_1 rfl ?_
  refine lv_lconst (v := 0) hx hb dX4_between_2 (by decide) ?_
  refine lv_ldc2 hx hb hown w0 dX4_between_3 ?_
  obtain ⟨r6, hv6, hf⟩ := bd1_s hf
  refine roSi (As := [.long (Int32.toInt64 p1), .long 0, .long 5000]) (rest := []) ⟨hx, hb, hml, hown, hts⟩ (zX4_in l G cI _ (Int32.toInt64 p1) 0 5000 hv6) (va_cwS 3 hts gX4_between_X4_in rfl rfl rfl (by decide +kernel) ⟨Nat.le_of_ble_eq_true rfl, Nat.le_of_ble_eq_true rfl⟩) hK hP rfl hl.1 rfl (Nat.le_of_ble_eq_true rfl) dX4_between_6 ⟨Nat.le_of_ble_eq_true rfl, Nat.le_of_ble_eq_true rfl⟩ hS hA (fun H locs hP hz6 hS => ?_)
  refine lv_if_eq (tgt := 53) hx hb dX4_between_9 (by decide) (fun c9 => ?_) (fun c9 => ?_)
  · have hf := it_t c9 hf
    exact J53   mth mtp mbt p1 p2 p3 p4 _ _ _ hf hP hD hS (lv_sub hl [0, 1, 2, 3, 4] rfl)
  · have hf := it_f c9 hf
    refine lv_iload_n hx hb dX4_between_12 rfl (lv_at hl 2 rfl) ?_
    refine lv_i2l hx hb dX4_between_13 rfl ?_
    refine lv_lconst (v := 1) hx hb dX4_between_14 (by decide) ?_
    refine lv_ldc2 hx hb hown w0 dX4_between_15 ?_
    obtain ⟨r18, hv18, hf⟩ := bd1_s hf
    refine roSi (As := [.long (Int32.toInt64 p2), .long 1, .long 5000]) (rest := []) ⟨hx, hb, hml, hown, hts⟩ (zX4_in l G cI _ (Int32.toInt64 p2) 1 5000 hv18) (va_cwS 3 hts gX4_between_X4_in rfl rfl rfl (by decide +kernel) ⟨Nat.le_of_ble_eq_true rfl, Nat.le_of_ble_eq_true rfl⟩) hK hP rfl hl.1 rfl (Nat.le_of_ble_eq_true rfl) dX4_between_18 ⟨Nat.le_of_ble_eq_true rfl, Nat.le_of_ble_eq_true rfl⟩ hS hA (fun H locs hP hz18 hS => ?_)
    refine lv_if_eq (tgt := 53) hx hb dX4_between_21 (by decide) (fun c21 => ?_) (fun c21 => ?_)
    · have hf := it_t c21 hf
      exact J53   mth mtp mbt p1 p2 p3 p4 _ _ _ hf hP hD hS (lv_sub hl [0, 1, 2, 3, 4] rfl)
    · have hf := it_f c21 hf
      refine lv_iload_n hx hb dX4_between_24 rfl (lv_at hl 3 rfl) ?_
      refine lv_i2l hx hb dX4_between_25 rfl ?_
      refine lv_lconst (v := 0) hx hb dX4_between_26 (by decide) ?_
      refine lv_ldc2 hx hb hown w0 dX4_between_27 ?_
      obtain ⟨r30, hv30, hf⟩ := bd1_s hf
      refine roSi (As := [.long (Int32.toInt64 p3), .long 0, .long 5000]) (rest := []) ⟨hx, hb, hml, hown, hts⟩ (zX4_in l G cI _ (Int32.toInt64 p3) 0 5000 hv30) (va_cwS 3 hts gX4_between_X4_in rfl rfl rfl (by decide +kernel) ⟨Nat.le_of_ble_eq_true rfl, Nat.le_of_ble_eq_true rfl⟩) hK hP rfl hl.1 rfl (Nat.le_of_ble_eq_true rfl) dX4_between_30 ⟨Nat.le_of_ble_eq_true rfl, Nat.le_of_ble_eq_true rfl⟩ hS hA (fun H locs hP hz30 hS => ?_)
      refine lv_if_eq (tgt := 53) hx hb dX4_between_33 (by decide) (fun c33 => ?_) (fun c33 => ?_)
      · have hf := it_t c33 hf
        exact J53   mth mtp mbt p1 p2 p3 p4 _ _ _ hf hP hD hS (lv_sub hl [0, 1, 2, 3, 4] rfl)
      · have hf := it_f c33 hf
        refine lv_iload hx hb dX4_between_36 (lv_at hl 4 rfl) ?_
        refine lv_i2l hx hb dX4_between_38 rfl ?_
        refine lv_lconst (v := 1) hx hb dX4_between_39 (by decide) ?_
        refine lv_ldc2 hx hb hown w0 dX4_between_40 ?_
        obtain ⟨r43, hv43, hf⟩ := bd1_s hf
        refine roSi (As := [.long (Int32.toInt64 p4), .long 1, .long 5000]) (rest := []) ⟨hx, hb, hml, hown, hts⟩ (zX4_in l G cI _ (Int32.toInt64 p4) 1 5000 hv43) (va_cwS 3 hts gX4_between_X4_in rfl rfl rfl (by decide +kernel) ⟨Nat.le_of_ble_eq_true rfl, Nat.le_of_ble_eq_true rfl⟩) hK hP rfl hl.1 rfl (Nat.le_of_ble_eq_true rfl) dX4_between_43 ⟨Nat.le_of_ble_eq_true rfl, Nat.le_of_ble_eq_true rfl⟩ hS hA (fun H locs hP hz43 hS => ?_)
        refine lv_if_eq (tgt := 53) hx hb dX4_between_46 (by decide) (fun c46 => ?_) (fun c46 => ?_)
        · have hf := it_t c46 hf
          exact J53   mth mtp mbt p1 p2 p3 p4 _ _ _ hf hP hD hS (lv_sub hl [0, 1, 2, 3, 4] rfl)
        · have hf := it_f c46 hf
          refine lv_iconst (v := 1) hx hb dX4_between_49 (by decide) ?_
          refine lv_goto (tgt := 54) hx hb dX4_between_50 (by decide) ?_
          exact J54   mth mtp mbt p1 p2 p3 p4 1 _ _ _ hf hP hD hS (lv_sub hl [0, 1, 2, 3, 4] rfl)
def fX4_row_J57 (k23 : Int32 → Int32 → Int32 → Int32 → Option (Int32 × Int32)) (k31 : Int32 → Int32 → Int32 → Int32 → Int32 → Option (Int32 × Int32)) (mth : Int32) (x1 : Int32) (x3 : Int32) (x4 : Int32) (y0 : Int32) : Option (Int32 × Int32) :=
  nm (x4 + 1) fun v58 =>
  k31 mth x1 y0 x3 v58
def fX4_row_B31 (k23 : Int32 → Int32 → Int32 → Int32 → Option (Int32 × Int32)) (k31 : Int32 → Int32 → Int32 → Int32 → Int32 → Option (Int32 × Int32)) (mth : Int32) (x1 : Int32) (x2 : Int32) (x3 : Int32) (x4 : Int32) : Option (Int32 × Int32) :=
  if x3 < x4 then
    nm (x3 + 1) fun v64 =>
    k23 mth x1 x2 v64
  else
    bd1 (fX4_common (Int32.toInt64 x4) (Int32.toInt64 x3)) fun r42 =>
    if (lg_cmp r42 1) = 0 then
      fX4_row_J57 k23 k31  mth x1 x3 x4 (x2 + 1)
    else
      fX4_row_J57 k23 k31  mth x1 x3 x4 x2
def fX4_row_L31 (k23 : Int32 → Int32 → Int32 → Int32 → Option (Int32 × Int32)) : Nat → Int32 → Int32 → Int32 → Int32 → Int32 → Option (Int32 × Int32)
  | 0, _, _, _, _, _ => none
  | n + 1, mth, x1, x2, x3, x4 => fX4_row_B31 k23 (fX4_row_L31 k23  n)  mth x1 x2 x3 x4
def fX4_row_B23 (k23 : Int32 → Int32 → Int32 → Int32 → Option (Int32 × Int32)) (mth : Int32) (x1 : Int32) (x2 : Int32) (x3 : Int32) : Option (Int32 × Int32) :=
  if x1 < x3 then
    some (x2, mth)
  else
    fX4_row_L31 k23  FU mth x1 x2 x3 1
def fX4_row_L23 : Nat → Int32 → Int32 → Int32 → Int32 → Option (Int32 × Int32)
  | 0, _, _, _, _ => none
  | n + 1, mth, x1, x2, x3 => fX4_row_B23 (fX4_row_L23   n)  mth x1 x2 x3
def fX4_row (mth : Int32) (p1 : Int32) : Option (Int32 × Int32) :=
  bd1 (fX4_in (Int32.toInt64 p1) 1 200) fun r11 =>
  if r11 = 0 then
    some ((-1), 0)
  else
    fX4_row_L23   FU 0 p1 1 1
set_option maxHeartbeats 4000000 in
set_option maxRecDepth 100000 in
theorem zX4_row (l : Launch) (G : va_G) (cI : ClassId) (sz : Nat) (h a5 a6 : Nat) (mth : Int32) (mtp : Int32) (mbt : Int32) (mmn : Int32) (mte : Nat → Int32) (mrs : Int32) (mru : Nat → Int32) (mlt : Int64) (mlb : Int64) (mht : Int64) (mhb : Int64) (p1 : Int32) {rv : Int32} {o_mth : Int32} (hf : fX4_row mth p1 = some (rv, o_mth)) : mMi l yX4_row wsX4_row ({ frames := 1, cells := 0, slots := 0, locals := 29 }) [.ref h, .int p1] G cI [(h, .inr (4, [.int mth, .int mtp, .int mbt, .int mmn, .ref a5, .int mrs, .ref a6, .long mlt, .long mlb, .long mht, .long mhb])), (a5, .inl (cI, 64, .inl mte)), (a6, .inl (cI, 64, .inl mru))] sz rv [(h, .inr (4, [.int o_mth, .int mtp, .int mbt, .int mmn, .ref a5, .int mrs, .ref a6, .long mlt, .long mlb, .long mht, .long mhb])), (a5, .inl (cI, 64, .inl mte)), (a6, .inl (cI, 64, .inl mru))] 0 0 := by
  refine Met.ofW (cc := cX4_row) (maxL := 5) (ret := (some .int)) (by decide) rfl ?_
  intro p e s m args below meth c s₁ B hml hv
  obtain ⟨rfl, hsz, hP, hK, hD0⟩ := hv
  have hx := B.exec
  have hb := B.bytes
  have hr := B.returns
  have hts := atoms_spec (ws := wsX4_row) B.pre
  have hown : s.vm.findClass RX4 = some m.cls := findClass_of_methodNamed B.named
  have hlocks := B.notSynchronized
  subst hsz
  have hD := hD0.self (sz := s.heap.size)
  generalize hAe : va_A [(h, .inr (4, [.int mth, .int mtp, .int mbt, .int mmn, .ref a5, .int mrs, .ref a6, .long mlt, .long mlb, .long mht, .long mhb])), (a5, .inl (cI, 64, .inl mte)), (a6, .inl (cI, 64, .inl mru))] s.heap.size = A at hD ⊢
  have hA : ∀ q : Nat, s.heap.size ≤ q → A q := fun q h => by rw [← hAe]; exact Or.inr h
  have hS : va_S A s.heap s.heap [] := va_S.rf
  have w0 := hts (.fieldLink RX4 23 "SternDeskModel" "thrown" "I") (by decide +kernel)
  have hinX4 : ∀ w ∈ u_ws RX4 TX4 11, w ∈ wsX4_row := by decide +kernel
  have w2 := hts (.constantLong RX4 74 (200)) (by decide +kernel)
  obtain ⟨Qf, hQf⟩ : ∃ f : (Int32 × Int32) → State → Prop, f = fun z => MQ below (va_Qi (fun (r : Int32) (_ : Unit) => r = z.1) (fun _ t => va_P G vwCl [(h, .inr (4, [.int z.2, .int mtp, .int mbt, .int mmn, .ref a5, .int mrs, .ref a6, .long mlt, .long mlb, .long mht, .long mhb])), (a5, .inl (cI, 64, .inl mte)), (a6, .inl (cI, 64, .inl mru))] t.heap ∧ va_D A [(h, .inr (4, [.int z.2, .int mtp, .int mbt, .int mmn, .ref a5, .int mrs, .ref a6, .long mlt, .long mlb, .long mht, .long mhb])), (a5, .inl (cI, 64, .inl mte)), (a6, .inl (cI, 64, .inl mru))]) A) ([.ref h, .int p1].toArray) s 0 0 A := ⟨_, rfl⟩
  suffices hgo : W p l e (headSpec wsX4_row ({ frames := 1, cells := 0, slots := 0, locals := 29 })).room s m ([.ref h, .int p1].toArray) below meth c s.heap [] 0 0 (Qf (rv, o_mth)) (entryFrame m ([.ref h, .int p1].toArray) 5) by rw [hQf] at hgo; exact hgo
  have J57 : ∀ (k23 : Int32 → Int32 → Int32 → Int32 → Option (Int32 × Int32)) (hk23 : ∀ (mth : Int32) (x1 : Int32) (x2 : Int32) (x3 : Int32) (H : Heap) (locs : List Loc) (ls : Array Slot), k23 mth x1 x2 x3 = some (rv, o_mth) → va_P G vwCl [(h, .inr (4, [.int mth, .int mtp, .int mbt, .int mmn, .ref a5, .int mrs, .ref a6, .long mlt, .long mlb, .long mht, .long mhb])), (a5, .inl (cI, 64, .inl mte)), (a6, .inl (cI, 64, .inl mru))] H → va_D A [(h, .inr (4, [.int mth, .int mtp, .int mbt, .int mmn, .ref a5, .int mrs, .ref a6, .long mlt, .long mlb, .long mht, .long mhb])), (a5, .inl (cI, 64, .inl mte)), (a6, .inl (cI, 64, .inl mru))] → va_S A s.heap H locs → lv_has ls 5 [(1, .int x1), (2, .int x2), (3, .int x3)] → W p l e (headSpec wsX4_row ({ frames := 1, cells := 0, slots := 0, locals := 29 })).room s m ([.ref h, .int p1].toArray) below meth c H locs 0 0 (Qf (rv, o_mth)) (F0 m 23 ls [])) (k31 : Int32 → Int32 → Int32 → Int32 → Int32 → Option (Int32 × Int32)) (hk31 : ∀ (mth : Int32) (x1 : Int32) (x2 : Int32) (x3 : Int32) (x4 : Int32) (H : Heap) (locs : List Loc) (ls : Array Slot), k31 mth x1 x2 x3 x4 = some (rv, o_mth) → va_P G vwCl [(h, .inr (4, [.int mth, .int mtp, .int mbt, .int mmn, .ref a5, .int mrs, .ref a6, .long mlt, .long mlb, .long mht, .long mhb])), (a5, .inl (cI, 64, .inl mte)), (a6, .inl (cI, 64, .inl mru))] H → va_D A [(h, .inr (4, [.int mth, .int mtp, .int mbt, .int mmn, .ref a5, .int mrs, .ref a6, .long mlt, .long mlb, .long mht, .long mhb])), (a5, .inl (cI, 64, .inl mte)), (a6, .inl (cI, 64, .inl mru))] → va_S A s.heap H locs → lv_has ls 5 [(1, .int x1), (2, .int x2), (3, .int x3), (4, .int x4)] → W p l e (headSpec wsX4_row ({ frames := 1, cells := 0, slots := 0, locals := 29 })).room s m ([.ref h, .int p1].toArray) below meth c H locs 0 0 (Qf (rv, o_mth)) (F0 m 31 ls [])) (mth : Int32) (x1 : Int32) (x3 : Int32) (x4 : Int32) (y0 : Int32) (H : Heap) (locs : List Loc) (ls : Array Slot), fX4_row_J57 k23 k31  mth x1 x3 x4 y0 = some (rv, o_mth) → va_P G vwCl [(h, .inr (4, [.int mth, .int mtp, .int mbt, .int mmn, .ref a5, .int mrs, .ref a6, .long mlt, .long mlb, .long mht, .long mhb])), (a5, .inl (cI, 64, .inl mte)), (a6, .inl (cI, 64, .inl mru))] H → va_D A [(h, .inr (4, [.int mth, .int mtp, .int mbt, .int mmn, .ref a5, .int mrs, .ref a6, .long mlt, .long mlb, .long mht, .long mhb])), (a5, .inl (cI, 64, .inl mte)), (a6, .inl (cI, 64, .inl mru))] → va_S A s.heap H locs → lv_has ls 5 [(1, .int x1), (3, .int x3), (4, .int x4)] → W p l e (headSpec wsX4_row ({ frames := 1, cells := 0, slots := 0, locals := 29 })).room s m ([.ref h, .int p1].toArray) below meth c H locs 0 0 (Qf (rv, o_mth)) (F0 m 57 ls [.int y0]) := by
    intro k23 hk23 k31 hk31  mth x1 x3 x4 y0 H locs ls hf hP hD hS hl
    unfold fX4_row_J57 at hf
    refine lv_istore_n (lv' := [(2, .int y0), (1, .int x1), (3, .int x3), (4, .int x4)]) hx hb dX4_row_57 rfl hl (by decide) rfl (fun ls hl => ?_)
    obtain ⟨v58, ev58⟩ : ∃ y : Int32, y = x4 + 1 := ⟨_, rfl⟩
    have hf := nm_s ev58 hf
    refine lv_iinc (v := v58) (lv' := [(4, .int v58), (2, .int y0), (1, .int x1), (3, .int x3)]) hx hb dX4_row_58 hl (k := 3) rfl (by rw [ev58]; rfl) (by decide) rfl (fun ls hl => ?_)
    refine lv_goto (tgt := 31) hx hb dX4_row_61 (by decide) ?_
    exact hk31  mth x1 y0 x3 v58 _ _ _ hf hP hD hS (lv_sub hl [2, 1, 3, 0] rfl)
  have B31 : ∀ (k23 : Int32 → Int32 → Int32 → Int32 → Option (Int32 × Int32)) (hk23 : ∀ (mth : Int32) (x1 : Int32) (x2 : Int32) (x3 : Int32) (H : Heap) (locs : List Loc) (ls : Array Slot), k23 mth x1 x2 x3 = some (rv, o_mth) → va_P G vwCl [(h, .inr (4, [.int mth, .int mtp, .int mbt, .int mmn, .ref a5, .int mrs, .ref a6, .long mlt, .long mlb, .long mht, .long mhb])), (a5, .inl (cI, 64, .inl mte)), (a6, .inl (cI, 64, .inl mru))] H → va_D A [(h, .inr (4, [.int mth, .int mtp, .int mbt, .int mmn, .ref a5, .int mrs, .ref a6, .long mlt, .long mlb, .long mht, .long mhb])), (a5, .inl (cI, 64, .inl mte)), (a6, .inl (cI, 64, .inl mru))] → va_S A s.heap H locs → lv_has ls 5 [(1, .int x1), (2, .int x2), (3, .int x3)] → W p l e (headSpec wsX4_row ({ frames := 1, cells := 0, slots := 0, locals := 29 })).room s m ([.ref h, .int p1].toArray) below meth c H locs 0 0 (Qf (rv, o_mth)) (F0 m 23 ls [])) (k31 : Int32 → Int32 → Int32 → Int32 → Int32 → Option (Int32 × Int32)) (hk31 : ∀ (mth : Int32) (x1 : Int32) (x2 : Int32) (x3 : Int32) (x4 : Int32) (H : Heap) (locs : List Loc) (ls : Array Slot), k31 mth x1 x2 x3 x4 = some (rv, o_mth) → va_P G vwCl [(h, .inr (4, [.int mth, .int mtp, .int mbt, .int mmn, .ref a5, .int mrs, .ref a6, .long mlt, .long mlb, .long mht, .long mhb])), (a5, .inl (cI, 64, .inl mte)), (a6, .inl (cI, 64, .inl mru))] H → va_D A [(h, .inr (4, [.int mth, .int mtp, .int mbt, .int mmn, .ref a5, .int mrs, .ref a6, .long mlt, .long mlb, .long mht, .long mhb])), (a5, .inl (cI, 64, .inl mte)), (a6, .inl (cI, 64, .inl mru))] → va_S A s.heap H locs → lv_has ls 5 [(1, .int x1), (2, .int x2), (3, .int x3), (4, .int x4)] → W p l e (headSpec wsX4_row ({ frames := 1, cells := 0, slots := 0, locals := 29 })).room s m ([.ref h, .int p1].toArray) below meth c H locs 0 0 (Qf (rv, o_mth)) (F0 m 31 ls [])) (mth : Int32) (x1 : Int32) (x2 : Int32) (x3 : Int32) (x4 : Int32) (H : Heap) (locs : List Loc) (ls : Array Slot), fX4_row_B31 k23 k31  mth x1 x2 x3 x4 = some (rv, o_mth) → va_P G vwCl [(h, .inr (4, [.int mth, .int mtp, .int mbt, .int mmn, .ref a5, .int mrs, .ref a6, .long mlt, .long mlb, .long mht, .long mhb])), (a5, .inl (cI, 64, .inl mte)), (a6, .inl (cI, 64, .inl mru))] H → va_D A [(h, .inr (4, [.int mth, .int mtp, .int mbt, .int mmn, .ref a5, .int mrs, .ref a6, .long mlt, .long mlb, .long mht, .long mhb])), (a5, .inl (cI, 64, .inl mte)), (a6, .inl (cI, 64, .inl mru))] → va_S A s.heap H locs → lv_has ls 5 [(1, .int x1), (2, .int x2), (3, .int x3), (4, .int x4)] → W p l e (headSpec wsX4_row ({ frames := 1, cells := 0, slots := 0, locals := 29 })).room s m ([.ref h, .int p1].toArray) below meth c H locs 0 0 (Qf (rv, o_mth)) (F0 m 31 ls []) := by
    intro k23 hk23 k31 hk31  mth x1 x2 x3 x4 H locs ls hf hP hD hS hl
    unfold fX4_row_B31 at hf
    refine lv_iload hx hb dX4_row_31 (lv_at hl 3 rfl) ?_
    refine lv_iload_n hx hb dX4_row_33 rfl (lv_at hl 2 rfl) ?_
    refine lv_icmp_gt (tgt := 64) hx hb dX4_row_34 (by decide) (fun c34 => ?_) (fun c34 => ?_)
    · have hf := it_t c34 hf
      obtain ⟨v64, ev64⟩ : ∃ y : Int32, y = x3 + 1 := ⟨_, rfl⟩
      have hf := nm_s ev64 hf
      refine lv_iinc (v := v64) (lv' := [(3, .int v64), (1, .int x1), (2, .int x2), (4, .int x4)]) hx hb dX4_row_64 hl (k := 2) rfl (by rw [ev64]; rfl) (by decide) rfl (fun ls hl => ?_)
      refine lv_goto (tgt := 23) hx hb dX4_row_67 (by decide) ?_
      exact hk23  mth x1 x2 v64 _ _ _ hf hP hD hS (lv_sub hl [1, 2, 0] rfl)
    · have hf := it_f c34 hf
      refine lv_iload hx hb dX4_row_37 (lv_at hl 3 rfl) ?_
      refine lv_i2l hx hb dX4_row_39 rfl ?_
      refine lv_iload_n hx hb dX4_row_40 rfl (lv_at hl 2 rfl) ?_
      refine lv_i2l hx hb dX4_row_41 rfl ?_
      obtain ⟨r42, hv42, hf⟩ := bd1_s hf
      refine roSl (As := [.long (Int32.toInt64 x4), .long (Int32.toInt64 x3)]) (rest := []) ⟨hx, hb, hml, hown, hts⟩ (zX4_common l G cI _ (Int32.toInt64 x4) (Int32.toInt64 x3) hv42) (va_cwS 2 hts gX4_row_X4_common rfl rfl rfl (by decide +kernel) ⟨Nat.le_of_ble_eq_true rfl, Nat.le_of_ble_eq_true rfl⟩) hK hP rfl hl.1 rfl (Nat.le_of_ble_eq_true rfl) dX4_row_42 ⟨Nat.le_of_ble_eq_true rfl, Nat.le_of_ble_eq_true rfl⟩ hS hA (fun H locs hP hz42 hS => ?_)
      refine lv_lconst (v := 1) hx hb dX4_row_45 (by decide) ?_
      refine W.lcmp hx hb dX4_row_46 ?_
      refine lv_if_ne (tgt := 56) hx hb dX4_row_47 (by decide) (fun c47 => ?_) (fun c47 => ?_)
      · have hf := it_f c47 hf
        refine lv_iload_n hx hb dX4_row_56 rfl (lv_at hl 1 rfl) ?_
        exact J57 k23 hk23 k31 hk31  mth x1 x3 x4 x2 _ _ _ hf hP hD hS (lv_sub hl [0, 2, 3] rfl)
      · have hf := it_t c47 hf
        refine lv_iload_n hx hb dX4_row_50 rfl (lv_at hl 1 rfl) ?_
        refine lv_iconst (v := 1) hx hb dX4_row_51 (by decide) ?_
        refine lv_iadd hx hb dX4_row_52 ?_
        refine lv_goto (tgt := 57) hx hb dX4_row_53 (by decide) ?_
        exact J57 k23 hk23 k31 hk31  mth x1 x3 x4 (x2 + 1) _ _ _ hf hP hD hS (lv_sub hl [0, 2, 3] rfl)
  have L31 : ∀ (k23 : Int32 → Int32 → Int32 → Int32 → Option (Int32 × Int32)) (hk23 : ∀ (mth : Int32) (x1 : Int32) (x2 : Int32) (x3 : Int32) (H : Heap) (locs : List Loc) (ls : Array Slot), k23 mth x1 x2 x3 = some (rv, o_mth) → va_P G vwCl [(h, .inr (4, [.int mth, .int mtp, .int mbt, .int mmn, .ref a5, .int mrs, .ref a6, .long mlt, .long mlb, .long mht, .long mhb])), (a5, .inl (cI, 64, .inl mte)), (a6, .inl (cI, 64, .inl mru))] H → va_D A [(h, .inr (4, [.int mth, .int mtp, .int mbt, .int mmn, .ref a5, .int mrs, .ref a6, .long mlt, .long mlb, .long mht, .long mhb])), (a5, .inl (cI, 64, .inl mte)), (a6, .inl (cI, 64, .inl mru))] → va_S A s.heap H locs → lv_has ls 5 [(1, .int x1), (2, .int x2), (3, .int x3)] → W p l e (headSpec wsX4_row ({ frames := 1, cells := 0, slots := 0, locals := 29 })).room s m ([.ref h, .int p1].toArray) below meth c H locs 0 0 (Qf (rv, o_mth)) (F0 m 23 ls [])) (fu : Nat) (mth : Int32) (x1 : Int32) (x2 : Int32) (x3 : Int32) (x4 : Int32) (H : Heap) (locs : List Loc) (ls : Array Slot), fX4_row_L31 k23  fu mth x1 x2 x3 x4 = some (rv, o_mth) → va_P G vwCl [(h, .inr (4, [.int mth, .int mtp, .int mbt, .int mmn, .ref a5, .int mrs, .ref a6, .long mlt, .long mlb, .long mht, .long mhb])), (a5, .inl (cI, 64, .inl mte)), (a6, .inl (cI, 64, .inl mru))] H → va_D A [(h, .inr (4, [.int mth, .int mtp, .int mbt, .int mmn, .ref a5, .int mrs, .ref a6, .long mlt, .long mlb, .long mht, .long mhb])), (a5, .inl (cI, 64, .inl mte)), (a6, .inl (cI, 64, .inl mru))] → va_S A s.heap H locs → lv_has ls 5 [(1, .int x1), (2, .int x2), (3, .int x3), (4, .int x4)] → W p l e (headSpec wsX4_row ({ frames := 1, cells := 0, slots := 0, locals := 29 })).room s m ([.ref h, .int p1].toArray) below meth c H locs 0 0 (Qf (rv, o_mth)) (F0 m 31 ls []) := by
    intro k23 hk23 fu
    induction fu with
    | zero => intro  mth x1 x2 x3 x4 H locs ls hf; cases hf
    | succ fu ih => intro  mth x1 x2 x3 x4 H locs ls hf hP hD hS hl; exact B31 k23 hk23 (fX4_row_L31 k23  fu) ih  mth x1 x2 x3 x4 _ _ _ hf hP hD hS hl
  have B23 : ∀ (k23 : Int32 → Int32 → Int32 → Int32 → Option (Int32 × Int32)) (hk23 : ∀ (mth : Int32) (x1 : Int32) (x2 : Int32) (x3 : Int32) (H : Heap) (locs : List Loc) (ls : Array Slot), k23 mth x1 x2 x3 = some (rv, o_mth) → va_P G vwCl [(h, .inr (4, [.int mth, .int mtp, .int mbt, .int mmn, .ref a5, .int mrs, .ref a6, .long mlt, .long mlb, .long mht, .long mhb])), (a5, .inl (cI, 64, .inl mte)), (a6, .inl (cI, 64, .inl mru))] H → va_D A [(h, .inr (4, [.int mth, .int mtp, .int mbt, .int mmn, .ref a5, .int mrs, .ref a6, .long mlt, .long mlb, .long mht, .long mhb])), (a5, .inl (cI, 64, .inl mte)), (a6, .inl (cI, 64, .inl mru))] → va_S A s.heap H locs → lv_has ls 5 [(1, .int x1), (2, .int x2), (3, .int x3)] → W p l e (headSpec wsX4_row ({ frames := 1, cells := 0, slots := 0, locals := 29 })).room s m ([.ref h, .int p1].toArray) below meth c H locs 0 0 (Qf (rv, o_mth)) (F0 m 23 ls [])) (mth : Int32) (x1 : Int32) (x2 : Int32) (x3 : Int32) (H : Heap) (locs : List Loc) (ls : Array Slot), fX4_row_B23 k23  mth x1 x2 x3 = some (rv, o_mth) → va_P G vwCl [(h, .inr (4, [.int mth, .int mtp, .int mbt, .int mmn, .ref a5, .int mrs, .ref a6, .long mlt, .long mlb, .long mht, .long mhb])), (a5, .inl (cI, 64, .inl mte)), (a6, .inl (cI, 64, .inl mru))] H → va_D A [(h, .inr (4, [.int mth, .int mtp, .int mbt, .int mmn, .ref a5, .int mrs, .ref a6, .long mlt, .long mlb, .long mht, .long mhb])), (a5, .inl (cI, 64, .inl mte)), (a6, .inl (cI, 64, .inl mru))] → va_S A s.heap H locs → lv_has ls 5 [(1, .int x1), (2, .int x2), (3, .int x3)] → W p l e (headSpec wsX4_row ({ frames := 1, cells := 0, slots := 0, locals := 29 })).room s m ([.ref h, .int p1].toArray) below meth c H locs 0 0 (Qf (rv, o_mth)) (F0 m 23 ls []) := by
    intro k23 hk23  mth x1 x2 x3 H locs ls hf hP hD hS hl
    unfold fX4_row_B23 at hf
    refine lv_iload_n hx hb dX4_row_23 rfl (lv_at hl 2 rfl) ?_
    refine lv_iload_n hx hb dX4_row_24 rfl (lv_at hl 0 rfl) ?_
    refine lv_icmp_gt (tgt := 70) hx hb dX4_row_25 (by decide) (fun c25 => ?_) (fun c25 => ?_)
    · have hf := it_t c25 hf
      refine lv_iload_n hx hb dX4_row_70 rfl (lv_at hl 1 rfl) ?_
      refine qf_s (Qf := Qf) hf ?_
      have hP9 : va_P G vwCl [(h, .inr (4, [.int mth, .int mtp, .int mbt, .int mmn, .ref a5, .int mrs, .ref a6, .long mlt, .long mlb, .long mht, .long mhb])), (a5, .inl (cI, 64, .inl mte)), (a6, .inl (cI, 64, .inl mru))] _ := hP.sub [0, 1, 2] rfl
      have hD9 : va_D A [(h, .inr (4, [.int mth, .int mtp, .int mbt, .int mmn, .ref a5, .int mrs, .ref a6, .long mlt, .long mlb, .long mht, .long mhb])), (a5, .inl (cI, 64, .inl mte)), (a6, .inl (cI, 64, .inl mru))] := hD.sub [0, 1, 2] (by decide) rfl
      rw [hQf]
      exact W.iret hx hb hr (fun t ht hW => ⟨⟨_, (), rfl, rfl, by rw [ht]; exact hP9, hD9⟩, hS.F ht⟩) hS.2.2 dX4_row_71
    · have hf := it_f c25 hf
      refine lv_iconst (v := 1) hx hb dX4_row_28 (by decide) ?_
      refine lv_istore (lv' := [(4, .int 1), (1, .int x1), (2, .int x2), (3, .int x3)]) hx hb dX4_row_29 hl (by decide) rfl (fun ls hl => ?_)
      exact L31 k23 hk23 FU  mth x1 x2 x3 1 _ _ _ hf hP hD hS (lv_sub hl [1, 2, 3, 0] rfl)
  have L23 : ∀ (fu : Nat) (mth : Int32) (x1 : Int32) (x2 : Int32) (x3 : Int32) (H : Heap) (locs : List Loc) (ls : Array Slot), fX4_row_L23   fu mth x1 x2 x3 = some (rv, o_mth) → va_P G vwCl [(h, .inr (4, [.int mth, .int mtp, .int mbt, .int mmn, .ref a5, .int mrs, .ref a6, .long mlt, .long mlb, .long mht, .long mhb])), (a5, .inl (cI, 64, .inl mte)), (a6, .inl (cI, 64, .inl mru))] H → va_D A [(h, .inr (4, [.int mth, .int mtp, .int mbt, .int mmn, .ref a5, .int mrs, .ref a6, .long mlt, .long mlb, .long mht, .long mhb])), (a5, .inl (cI, 64, .inl mte)), (a6, .inl (cI, 64, .inl mru))] → va_S A s.heap H locs → lv_has ls 5 [(1, .int x1), (2, .int x2), (3, .int x3)] → W p l e (headSpec wsX4_row ({ frames := 1, cells := 0, slots := 0, locals := 29 })).room s m ([.ref h, .int p1].toArray) below meth c H locs 0 0 (Qf (rv, o_mth)) (F0 m 23 ls []) := by
    intro  fu
    induction fu with
    | zero => intro  mth x1 x2 x3 H locs ls hf; cases hf
    | succ fu ih => intro  mth x1 x2 x3 H locs ls hf hP hD hS hl; exact B23 (fX4_row_L23   fu) ih  mth x1 x2 x3 _ _ _ hf hP hD hS hl
  have hl := lv_entry ([.ref h, .int p1]) (n := 5) (Nat.le_of_ble_eq_true rfl)
  rw [lg_entry_eq]
  generalize (lg_sl ([.ref h, .int p1]) ++ List.replicate (5 - (lg_sl ([.ref h, .int p1])).length) Slot.unset).toArray = ls at hl ⊢
  have hl : lv_has ls 5 [(0, .ref h), (1, .int p1)] := hl
  unfold fX4_row at hf
  refine lv_aload_n hx hb dX4_row_0 rfl (lv_at hl 0 rfl) ?_
  refine lv_iconst (v := 0) hx hb dX4_row_1 (by decide) ?_
  refine va_put (D := G) (ci := 4) (v := .int 0) (ty := .int) (C := RX4) (T := TX4) (N := 11) hx hb hts hinX4 tyX4 tyX4_ok nmX4 hown hK.1 hP hD hS 0 rfl rfl 0 (by decide) w0 (fun _ h9 => h9) rfl (by decide +kernel) rfl rfl (Nat.le_of_ble_eq_true rfl) dX4_row_2 (fun H locs hP hD hS => ?_)
  have hP : va_P G vwCl [(h, .inr (4, [.int 0, .int mtp, .int mbt, .int mmn, .ref a5, .int mrs, .ref a6, .long mlt, .long mlb, .long mht, .long mhb])), (a5, .inl (cI, 64, .inl mte)), (a6, .inl (cI, 64, .inl mru))] H := hP
  have hD : va_D A [(h, .inr (4, [.int 0, .int mtp, .int mbt, .int mmn, .ref a5, .int mrs, .ref a6, .long mlt, .long mlb, .long mht, .long mhb])), (a5, .inl (cI, 64, .inl mte)), (a6, .inl (cI, 64, .inl mru))] := hD
  refine lv_iload_n hx hb dX4_row_5 rfl (lv_at hl 1 rfl) ?_
  refine lv_i2l hx hb dX4_row_6 rfl ?_
  refine lv_lconst (v := 1) hx hb dX4_row_7 (by decide) ?_
  refine lv_ldc2 hx hb hown w2 dX4_row_8 ?_
  obtain ⟨r11, hv11, hf⟩ := bd1_s hf
  refine roSi (As := [.long (Int32.toInt64 p1), .long 1, .long 200]) (rest := []) ⟨hx, hb, hml, hown, hts⟩ (zX4_in l G cI _ (Int32.toInt64 p1) 1 200 hv11) (va_cwS 3 hts gX4_row_X4_in rfl rfl rfl (by decide +kernel) ⟨Nat.le_of_ble_eq_true rfl, Nat.le_of_ble_eq_true rfl⟩) hK hP rfl hl.1 rfl (Nat.le_of_ble_eq_true rfl) dX4_row_11 ⟨Nat.le_of_ble_eq_true rfl, Nat.le_of_ble_eq_true rfl⟩ hS hA (fun H locs hP hz11 hS => ?_)
  refine lv_if_ne (tgt := 19) hx hb dX4_row_14 (by decide) (fun c14 => ?_) (fun c14 => ?_)
  · have hf := it_f c14 hf
    refine lv_iconst (v := 1) hx hb dX4_row_19 (by decide) ?_
    refine lv_istore_n (lv' := [(2, .int 1), (0, .ref h), (1, .int p1)]) hx hb dX4_row_20 rfl hl (by decide) rfl (fun ls hl => ?_)
    refine lv_iconst (v := 1) hx hb dX4_row_21 (by decide) ?_
    refine lv_istore_n (lv' := [(3, .int 1), (2, .int 1), (0, .ref h), (1, .int p1)]) hx hb dX4_row_22 rfl hl (by decide) rfl (fun ls hl => ?_)
    exact L23  FU  0 p1 1 1 _ _ _ hf hP hD hS (lv_sub hl [3, 1, 0] rfl)
  · have hf := it_t c14 hf
    refine lv_iconst (v := (-1)) hx hb dX4_row_17 (by decide) ?_
    refine qf_s (Qf := Qf) hf ?_
    have hP9 : va_P G vwCl [(h, .inr (4, [.int 0, .int mtp, .int mbt, .int mmn, .ref a5, .int mrs, .ref a6, .long mlt, .long mlb, .long mht, .long mhb])), (a5, .inl (cI, 64, .inl mte)), (a6, .inl (cI, 64, .inl mru))] _ := hP.sub [0, 1, 2] rfl
    have hD9 : va_D A [(h, .inr (4, [.int 0, .int mtp, .int mbt, .int mmn, .ref a5, .int mrs, .ref a6, .long mlt, .long mlb, .long mht, .long mhb])), (a5, .inl (cI, 64, .inl mte)), (a6, .inl (cI, 64, .inl mru))] := hD.sub [0, 1, 2] (by decide) rfl
    rw [hQf]
    exact W.iret hx hb hr (fun t ht hW => ⟨⟨_, (), rfl, rfl, by rw [ht]; exact hP9, hD9⟩, hS.F ht⟩) hS.2.2 dX4_row_18
def fX4_pick_B32 (k32 : Int32 → Int32 → Int32 → Int32 → Int32 → Int32 → Int32 → Int32 → Int32 → Int32 → Option (Int32 × Int32 × Int32 × Int32)) (mth : Int32) (mtp : Int32) (mbt : Int32) (x1 : Int32) (x2 : Int32) (x4 : Int32) (x5 : Int32) (x6 : Int32) (x7 : Int32) (x8 : Int32) : Option (Int32 × Int32 × Int32 × Int32) :=
  if x2 ≤ x8 then
    some (1, mth, x4, x5)
  else
    ckZ x7 <|
    nm ((x1 + x5) / x7) fun v45 =>
    nm ((v45 * x6) - x4) fun v55 =>
    nm ((v45 * x7) - x5) fun v65 =>
    nm (x8 + 1) fun v83 =>
    k32 mth mtp mbt x1 x2 x6 x7 v55 v65 v83
def fX4_pick_L32 : Nat → Int32 → Int32 → Int32 → Int32 → Int32 → Int32 → Int32 → Int32 → Int32 → Int32 → Option (Int32 × Int32 × Int32 × Int32)
  | 0, _, _, _, _, _, _, _, _, _, _ => none
  | n + 1, mth, mtp, mbt, x1, x2, x4, x5, x6, x7, x8 => fX4_pick_B32 (fX4_pick_L32   n)  mth mtp mbt x1 x2 x4 x5 x6 x7 x8
def fX4_pick (mth : Int32) (mtp : Int32) (mbt : Int32) (p1 : Int32) (p2 : Int32) : Option (Int32 × Int32 × Int32 × Int32) :=
  bd2 (fX4_row mth p1) fun r2 mth_2 =>
  if p2 < 0 then
    some (0, mth_2, mtp, mbt)
  else
    if p2 < r2 then
      fX4_pick_L32   FU mth_2 mtp mbt p1 p2 0 1 1 p1 0
    else
      some (0, mth_2, mtp, mbt)
set_option maxHeartbeats 4000000 in
set_option maxRecDepth 100000 in
theorem zX4_pick (l : Launch) (G : va_G) (cI : ClassId) (sz : Nat) (h a5 a6 : Nat) (mth : Int32) (mtp : Int32) (mbt : Int32) (mmn : Int32) (mte : Nat → Int32) (mrs : Int32) (mru : Nat → Int32) (mlt : Int64) (mlb : Int64) (mht : Int64) (mhb : Int64) (p1 : Int32) (p2 : Int32) {rv : Int32} {o_mth : Int32} {o_mtp : Int32} {o_mbt : Int32} (hf : fX4_pick mth mtp mbt p1 p2 = some (rv, o_mth, o_mtp, o_mbt)) : mMi l yX4_pick wsX4_pick ({ frames := 2, cells := 0, slots := 0, locals := 53 }) [.ref h, .int p1, .int p2] G cI [(h, .inr (4, [.int mth, .int mtp, .int mbt, .int mmn, .ref a5, .int mrs, .ref a6, .long mlt, .long mlb, .long mht, .long mhb])), (a5, .inl (cI, 64, .inl mte)), (a6, .inl (cI, 64, .inl mru))] sz rv [(h, .inr (4, [.int o_mth, .int o_mtp, .int o_mbt, .int mmn, .ref a5, .int mrs, .ref a6, .long mlt, .long mlb, .long mht, .long mhb])), (a5, .inl (cI, 64, .inl mte)), (a6, .inl (cI, 64, .inl mru))] 0 0 := by
  refine Met.ofW (cc := cX4_pick) (maxL := 12) (ret := (some .int)) (by decide) rfl ?_
  intro p e s m args below meth c s₁ B hml hv
  obtain ⟨rfl, hsz, hP, hK, hD0⟩ := hv
  have hx := B.exec
  have hb := B.bytes
  have hr := B.returns
  have hts := atoms_spec (ws := wsX4_pick) B.pre
  have hown : s.vm.findClass RX4 = some m.cls := findClass_of_methodNamed B.named
  have hlocks := B.notSynchronized
  subst hsz
  have hD := hD0.self (sz := s.heap.size)
  generalize hAe : va_A [(h, .inr (4, [.int mth, .int mtp, .int mbt, .int mmn, .ref a5, .int mrs, .ref a6, .long mlt, .long mlb, .long mht, .long mhb])), (a5, .inl (cI, 64, .inl mte)), (a6, .inl (cI, 64, .inl mru))] s.heap.size = A at hD ⊢
  have hA : ∀ q : Nat, s.heap.size ≤ q → A q := fun q h => by rw [← hAe]; exact Or.inr h
  have hS : va_S A s.heap s.heap [] := va_S.rf
  have w0 := hts (.fieldLink RX4 7 "SternDeskModel" "top" "I") (by decide +kernel)
  have hinX4 : ∀ w ∈ u_ws RX4 TX4 11, w ∈ wsX4_pick := by decide +kernel
  have w2 := hts (.fieldLink RX4 13 "SternDeskModel" "bottom" "I") (by decide +kernel)
  obtain ⟨Qf, hQf⟩ : ∃ f : (Int32 × Int32 × Int32 × Int32) → State → Prop, f = fun z => MQ below (va_Qi (fun (r : Int32) (_ : Unit) => r = z.1) (fun _ t => va_P G vwCl [(h, .inr (4, [.int z.2.1, .int z.2.2.1, .int z.2.2.2, .int mmn, .ref a5, .int mrs, .ref a6, .long mlt, .long mlb, .long mht, .long mhb])), (a5, .inl (cI, 64, .inl mte)), (a6, .inl (cI, 64, .inl mru))] t.heap ∧ va_D A [(h, .inr (4, [.int z.2.1, .int z.2.2.1, .int z.2.2.2, .int mmn, .ref a5, .int mrs, .ref a6, .long mlt, .long mlb, .long mht, .long mhb])), (a5, .inl (cI, 64, .inl mte)), (a6, .inl (cI, 64, .inl mru))]) A) ([.ref h, .int p1, .int p2].toArray) s 0 0 A := ⟨_, rfl⟩
  suffices hgo : W p l e (headSpec wsX4_pick ({ frames := 2, cells := 0, slots := 0, locals := 53 })).room s m ([.ref h, .int p1, .int p2].toArray) below meth c s.heap [] 0 0 (Qf (rv, o_mth, o_mtp, o_mbt)) (entryFrame m ([.ref h, .int p1, .int p2].toArray) 12) by rw [hQf] at hgo; exact hgo
  have B32 : ∀ (k32 : Int32 → Int32 → Int32 → Int32 → Int32 → Int32 → Int32 → Int32 → Int32 → Int32 → Option (Int32 × Int32 × Int32 × Int32)) (hk32 : ∀ (mth : Int32) (mtp : Int32) (mbt : Int32) (x1 : Int32) (x2 : Int32) (x4 : Int32) (x5 : Int32) (x6 : Int32) (x7 : Int32) (x8 : Int32) (H : Heap) (locs : List Loc) (ls : Array Slot), k32 mth mtp mbt x1 x2 x4 x5 x6 x7 x8 = some (rv, o_mth, o_mtp, o_mbt) → va_P G vwCl [(h, .inr (4, [.int mth, .int mtp, .int mbt, .int mmn, .ref a5, .int mrs, .ref a6, .long mlt, .long mlb, .long mht, .long mhb])), (a5, .inl (cI, 64, .inl mte)), (a6, .inl (cI, 64, .inl mru))] H → va_D A [(h, .inr (4, [.int mth, .int mtp, .int mbt, .int mmn, .ref a5, .int mrs, .ref a6, .long mlt, .long mlb, .long mht, .long mhb])), (a5, .inl (cI, 64, .inl mte)), (a6, .inl (cI, 64, .inl mru))] → va_S A s.heap H locs → lv_has ls 12 [(0, .ref h), (1, .int x1), (2, .int x2), (4, .int x4), (5, .int x5), (6, .int x6), (7, .int x7), (8, .int x8)] → W p l e (headSpec wsX4_pick ({ frames := 2, cells := 0, slots := 0, locals := 53 })).room s m ([.ref h, .int p1, .int p2].toArray) below meth c H locs 0 0 (Qf (rv, o_mth, o_mtp, o_mbt)) (F0 m 32 ls [])) (mth : Int32) (mtp : Int32) (mbt : Int32) (x1 : Int32) (x2 : Int32) (x4 : Int32) (x5 : Int32) (x6 : Int32) (x7 : Int32) (x8 : Int32) (H : Heap) (locs : List Loc) (ls : Array Slot), fX4_pick_B32 k32  mth mtp mbt x1 x2 x4 x5 x6 x7 x8 = some (rv, o_mth, o_mtp, o_mbt) → va_P G vwCl [(h, .inr (4, [.int mth, .int mtp, .int mbt, .int mmn, .ref a5, .int mrs, .ref a6, .long mlt, .long mlb, .long mht, .long mhb])), (a5, .inl (cI, 64, .inl mte)), (a6, .inl (cI, 64, .inl mru))] H → va_D A [(h, .inr (4, [.int mth, .int mtp, .int mbt, .int mmn, .ref a5, .int mrs, .ref a6, .long mlt, .long mlb, .long mht, .long mhb])), (a5, .inl (cI, 64, .inl mte)), (a6, .inl (cI, 64, .inl mru))] → va_S A s.heap H locs → lv_has ls 12 [(0, .ref h), (1, .int x1), (2, .int x2), (4, .int x4), (5, .int x5), (6, .int x6), (7, .int x7), (8, .int x8)] → W p l e (headSpec wsX4_pick ({ frames := 2, cells := 0, slots := 0, locals := 53 })).room s m ([.ref h, .int p1, .int p2].toArray) below meth c H locs 0 0 (Qf (rv, o_mth, o_mtp, o_mbt)) (F0 m 32 ls []) := by
    intro k32 hk32  mth mtp mbt x1 x2 x4 x5 x6 x7 x8 H locs ls hf hP hD hS hl
    unfold fX4_pick_B32 at hf
    refine lv_iload hx hb dX4_pick_32 (lv_at hl 7 rfl) ?_
    refine lv_iload_n hx hb dX4_pick_34 rfl (lv_at hl 2 rfl) ?_
    refine lv_icmp_ge (tgt := 89) hx hb dX4_pick_35 (by decide) (fun c35 => ?_) (fun c35 => ?_)
    · have hf := it_t c35 hf
      refine lv_aload_n hx hb dX4_pick_89 rfl (lv_at hl 0 rfl) ?_
      refine lv_iload hx hb dX4_pick_90 (lv_at hl 3 rfl) ?_
      refine va_put (D := G) (ci := 4) (v := .int x4) (ty := .int) (C := RX4) (T := TX4) (N := 11) hx hb hts hinX4 tyX4 tyX4_ok nmX4 hown hK.1 hP hD hS 0 rfl rfl 1 (by decide) w0 (fun _ h9 => h9) rfl (by decide +kernel) rfl rfl (Nat.le_of_ble_eq_true rfl) dX4_pick_92 (fun H locs hP hD hS => ?_)
      have hP : va_P G vwCl [(h, .inr (4, [.int mth, .int x4, .int mbt, .int mmn, .ref a5, .int mrs, .ref a6, .long mlt, .long mlb, .long mht, .long mhb])), (a5, .inl (cI, 64, .inl mte)), (a6, .inl (cI, 64, .inl mru))] H := hP
      have hD : va_D A [(h, .inr (4, [.int mth, .int x4, .int mbt, .int mmn, .ref a5, .int mrs, .ref a6, .long mlt, .long mlb, .long mht, .long mhb])), (a5, .inl (cI, 64, .inl mte)), (a6, .inl (cI, 64, .inl mru))] := hD
      refine lv_aload_n hx hb dX4_pick_95 rfl (lv_at hl 0 rfl) ?_
      refine lv_iload hx hb dX4_pick_96 (lv_at hl 4 rfl) ?_
      refine va_put (D := G) (ci := 4) (v := .int x5) (ty := .int) (C := RX4) (T := TX4) (N := 11) hx hb hts hinX4 tyX4 tyX4_ok nmX4 hown hK.1 hP hD hS 0 rfl rfl 2 (by decide) w2 (fun _ h9 => h9) rfl (by decide +kernel) rfl rfl (Nat.le_of_ble_eq_true rfl) dX4_pick_98 (fun H locs hP hD hS => ?_)
      have hP : va_P G vwCl [(h, .inr (4, [.int mth, .int x4, .int x5, .int mmn, .ref a5, .int mrs, .ref a6, .long mlt, .long mlb, .long mht, .long mhb])), (a5, .inl (cI, 64, .inl mte)), (a6, .inl (cI, 64, .inl mru))] H := hP
      have hD : va_D A [(h, .inr (4, [.int mth, .int x4, .int x5, .int mmn, .ref a5, .int mrs, .ref a6, .long mlt, .long mlb, .long mht, .long mhb])), (a5, .inl (cI, 64, .inl mte)), (a6, .inl (cI, 64, .inl mru))] := hD
      refine lv_iconst (v := 1) hx hb dX4_pick_101 (by decide) ?_
      refine qf_s (Qf := Qf) hf ?_
      have hP9 : va_P G vwCl [(h, .inr (4, [.int mth, .int x4, .int x5, .int mmn, .ref a5, .int mrs, .ref a6, .long mlt, .long mlb, .long mht, .long mhb])), (a5, .inl (cI, 64, .inl mte)), (a6, .inl (cI, 64, .inl mru))] _ := hP.sub [0, 1, 2] rfl
      have hD9 : va_D A [(h, .inr (4, [.int mth, .int x4, .int x5, .int mmn, .ref a5, .int mrs, .ref a6, .long mlt, .long mlb, .long mht, .long mhb])), (a5, .inl (cI, 64, .inl mte)), (a6, .inl (cI, 64, .inl mru))] := hD.sub [0, 1, 2] (by decide) rfl
      rw [hQf]
      exact W.iret hx hb hr (fun t ht hW => ⟨⟨_, (), rfl, rfl, by rw [ht]; exact hP9, hD9⟩, hS.F ht⟩) hS.2.2 dX4_pick_102
    · have hf := it_f c35 hf
      refine lv_iload_n hx hb dX4_pick_38 rfl (lv_at hl 1 rfl) ?_
      refine lv_iload hx hb dX4_pick_39 (lv_at hl 4 rfl) ?_
      refine lv_iadd hx hb dX4_pick_41 ?_
      refine lv_iload hx hb dX4_pick_42 (lv_at hl 6 rfl) ?_
      obtain ⟨hz44, hf⟩ := ckZ_s hf
      refine lv_idiv hx hb dX4_pick_44 hz44 ?_
      refine lv_topi (fun v45 ev45 => ?_)
      have hf := nm_s ev45 hf
      refine lv_istore (lv' := [(9, .int v45), (0, .ref h), (1, .int x1), (2, .int x2), (4, .int x4), (5, .int x5), (6, .int x6), (7, .int x7), (8, .int x8)]) hx hb dX4_pick_45 hl (by decide) rfl (fun ls hl => ?_)
      refine lv_iload hx hb dX4_pick_47 (lv_at hl 0 rfl) ?_
      refine lv_iload hx hb dX4_pick_49 (lv_at hl 6 rfl) ?_
      refine lv_imul hx hb dX4_pick_51 ?_
      refine lv_iload hx hb dX4_pick_52 (lv_at hl 4 rfl) ?_
      refine lv_isub hx hb dX4_pick_54 ?_
      refine lv_topi (fun v55 ev55 => ?_)
      have hf := nm_s ev55 hf
      refine lv_istore (lv' := [(10, .int v55), (9, .int v45), (0, .ref h), (1, .int x1), (2, .int x2), (4, .int x4), (5, .int x5), (6, .int x6), (7, .int x7), (8, .int x8)]) hx hb dX4_pick_55 hl (by decide) rfl (fun ls hl => ?_)
      refine lv_iload hx hb dX4_pick_57 (lv_at hl 1 rfl) ?_
      refine lv_iload hx hb dX4_pick_59 (lv_at hl 8 rfl) ?_
      refine lv_imul hx hb dX4_pick_61 ?_
      refine lv_iload hx hb dX4_pick_62 (lv_at hl 6 rfl) ?_
      refine lv_isub hx hb dX4_pick_64 ?_
      refine lv_topi (fun v65 ev65 => ?_)
      have hf := nm_s ev65 hf
      refine lv_istore (lv' := [(11, .int v65), (10, .int v55), (9, .int v45), (0, .ref h), (1, .int x1), (2, .int x2), (4, .int x4), (5, .int x5), (6, .int x6), (7, .int x7), (8, .int x8)]) hx hb dX4_pick_65 hl (by decide) rfl (fun ls hl => ?_)
      refine lv_iload hx hb dX4_pick_67 (lv_at hl 8 rfl) ?_
      refine lv_istore (lv' := [(4, .int x6), (11, .int v65), (10, .int v55), (9, .int v45), (0, .ref h), (1, .int x1), (2, .int x2), (5, .int x5), (6, .int x6), (7, .int x7), (8, .int x8)]) hx hb dX4_pick_69 hl (by decide) rfl (fun ls hl => ?_)
      refine lv_iload hx hb dX4_pick_71 (lv_at hl 9 rfl) ?_
      refine lv_istore (lv' := [(5, .int x7), (4, .int x6), (11, .int v65), (10, .int v55), (9, .int v45), (0, .ref h), (1, .int x1), (2, .int x2), (6, .int x6), (7, .int x7), (8, .int x8)]) hx hb dX4_pick_73 hl (by decide) rfl (fun ls hl => ?_)
      refine lv_iload hx hb dX4_pick_75 (lv_at hl 3 rfl) ?_
      refine lv_istore (lv' := [(6, .int v55), (5, .int x7), (4, .int x6), (11, .int v65), (10, .int v55), (9, .int v45), (0, .ref h), (1, .int x1), (2, .int x2), (7, .int x7), (8, .int x8)]) hx hb dX4_pick_77 hl (by decide) rfl (fun ls hl => ?_)
      refine lv_iload hx hb dX4_pick_79 (lv_at hl 3 rfl) ?_
      refine lv_istore (lv' := [(7, .int v65), (6, .int v55), (5, .int x7), (4, .int x6), (11, .int v65), (10, .int v55), (9, .int v45), (0, .ref h), (1, .int x1), (2, .int x2), (8, .int x8)]) hx hb dX4_pick_81 hl (by decide) rfl (fun ls hl => ?_)
      obtain ⟨v83, ev83⟩ : ∃ y : Int32, y = x8 + 1 := ⟨_, rfl⟩
      have hf := nm_s ev83 hf
      refine lv_iinc (v := v83) (lv' := [(8, .int v83), (7, .int v65), (6, .int v55), (5, .int x7), (4, .int x6), (11, .int v65), (10, .int v55), (9, .int v45), (0, .ref h), (1, .int x1), (2, .int x2)]) hx hb dX4_pick_83 hl (k := 10) rfl (by rw [ev83]; rfl) (by decide) rfl (fun ls hl => ?_)
      refine lv_goto (tgt := 32) hx hb dX4_pick_86 (by decide) ?_
      exact hk32  mth mtp mbt x1 x2 x6 x7 v55 v65 v83 _ _ _ hf hP hD hS (lv_sub hl [8, 9, 10, 4, 3, 2, 1, 0] rfl)
  have L32 : ∀ (fu : Nat) (mth : Int32) (mtp : Int32) (mbt : Int32) (x1 : Int32) (x2 : Int32) (x4 : Int32) (x5 : Int32) (x6 : Int32) (x7 : Int32) (x8 : Int32) (H : Heap) (locs : List Loc) (ls : Array Slot), fX4_pick_L32   fu mth mtp mbt x1 x2 x4 x5 x6 x7 x8 = some (rv, o_mth, o_mtp, o_mbt) → va_P G vwCl [(h, .inr (4, [.int mth, .int mtp, .int mbt, .int mmn, .ref a5, .int mrs, .ref a6, .long mlt, .long mlb, .long mht, .long mhb])), (a5, .inl (cI, 64, .inl mte)), (a6, .inl (cI, 64, .inl mru))] H → va_D A [(h, .inr (4, [.int mth, .int mtp, .int mbt, .int mmn, .ref a5, .int mrs, .ref a6, .long mlt, .long mlb, .long mht, .long mhb])), (a5, .inl (cI, 64, .inl mte)), (a6, .inl (cI, 64, .inl mru))] → va_S A s.heap H locs → lv_has ls 12 [(0, .ref h), (1, .int x1), (2, .int x2), (4, .int x4), (5, .int x5), (6, .int x6), (7, .int x7), (8, .int x8)] → W p l e (headSpec wsX4_pick ({ frames := 2, cells := 0, slots := 0, locals := 53 })).room s m ([.ref h, .int p1, .int p2].toArray) below meth c H locs 0 0 (Qf (rv, o_mth, o_mtp, o_mbt)) (F0 m 32 ls []) := by
    intro  fu
    induction fu with
    | zero => intro  mth mtp mbt x1 x2 x4 x5 x6 x7 x8 H locs ls hf; cases hf
    | succ fu ih => intro  mth mtp mbt x1 x2 x4 x5 x6 x7 x8 H locs ls hf hP hD hS hl; exact B32 (fX4_pick_L32   fu) ih  mth mtp mbt x1 x2 x4 x5 x6 x7 x8 _ _ _ hf hP hD hS hl
  have hl := lv_entry ([.ref h, .int p1, .int p2]) (n := 12) (Nat.le_of_ble_eq_true rfl)
  rw [lg_entry_eq]
  generalize (lg_sl ([.ref h, .int p1, .int p2]) ++ List.replicate (12 - (lg_sl ([.ref h, .int p1, .int p2])).length) Slot.unset).toArray = ls at hl ⊢
  have hl : lv_has ls 12 [(0, .ref h), (1, .int p1), (2, .int p2)] := hl
  unfold fX4_pick at hf
  refine lv_aload_n hx hb dX4_pick_0 rfl (lv_at hl 0 rfl) ?_
  refine lv_iload_n hx hb dX4_pick_1 rfl (lv_at hl 1 rfl) ?_
  obtain ⟨r2, mth_2, hv2, hf⟩ := bd2_s hf
  refine mcVi (As := [.int p1]) (rest := []) (wr := []) (wc := [(h, .inr (4, [.int mth, .int mtp, .int mbt, .int mmn, .ref a5, .int mrs, .ref a6, .long mlt, .long mlb, .long mht, .long mhb])), (a5, .inl (cI, 64, .inl mte)), (a6, .inl (cI, 64, .inl mru))]) ⟨hx, hb, hml, hown, hts⟩ (zX4_row l G cI _ h a5 a6 mth mtp mbt mmn mte mrs mru mlt mlb mht mhb p1 hv2) (cwV 1 hts gX4_pick_X4_row rfl rfl rfl (by decide +kernel) ⟨Nat.le_of_ble_eq_true rfl, Nat.le_of_ble_eq_true rfl⟩) hK hP hD [0, 1, 2] [] rfl rfl rfl (by decide) (by decide) (by decide) rfl rfl rfl hl.1 rfl (Nat.le_of_ble_eq_true rfl) dX4_pick_2 ⟨Nat.le_of_ble_eq_true rfl, Nat.le_of_ble_eq_true rfl⟩ hS hA (fun H locs hP hD hz2 hS => ?_)
  have hP : va_P G vwCl [(h, .inr (4, [.int mth_2, .int mtp, .int mbt, .int mmn, .ref a5, .int mrs, .ref a6, .long mlt, .long mlb, .long mht, .long mhb])), (a5, .inl (cI, 64, .inl mte)), (a6, .inl (cI, 64, .inl mru))] H := hP
  have hD : va_D A [(h, .inr (4, [.int mth_2, .int mtp, .int mbt, .int mmn, .ref a5, .int mrs, .ref a6, .long mlt, .long mlb, .long mht, .long mhb])), (a5, .inl (cI, 64, .inl mte)), (a6, .inl (cI, 64, .inl mru))] := hD
  refine lv_istore_n (lv' := [(3, .int r2), (0, .ref h), (1, .int p1), (2, .int p2)]) hx hb dX4_pick_5 rfl hl (by decide) rfl (fun ls hl => ?_)
  refine lv_iload_n hx hb dX4_pick_6 rfl (lv_at hl 3 rfl) ?_
  refine lv_if_lt (tgt := 15) hx hb dX4_pick_7 (by decide) (fun c7 => ?_) (fun c7 => ?_)
  · have hf := it_t c7 hf
    refine lv_iconst (v := 0) hx hb dX4_pick_15 (by decide) ?_
    refine qf_s (Qf := Qf) hf ?_
    have hP9 : va_P G vwCl [(h, .inr (4, [.int mth_2, .int mtp, .int mbt, .int mmn, .ref a5, .int mrs, .ref a6, .long mlt, .long mlb, .long mht, .long mhb])), (a5, .inl (cI, 64, .inl mte)), (a6, .inl (cI, 64, .inl mru))] _ := hP.sub [0, 1, 2] rfl
    have hD9 : va_D A [(h, .inr (4, [.int mth_2, .int mtp, .int mbt, .int mmn, .ref a5, .int mrs, .ref a6, .long mlt, .long mlb, .long mht, .long mhb])), (a5, .inl (cI, 64, .inl mte)), (a6, .inl (cI, 64, .inl mru))] := hD.sub [0, 1, 2] (by decide) rfl
    rw [hQf]
    exact W.iret hx hb hr (fun t ht hW => ⟨⟨_, (), rfl, rfl, by rw [ht]; exact hP9, hD9⟩, hS.F ht⟩) hS.2.2 dX4_pick_16
  · have hf := it_f c7 hf
    refine lv_iload_n hx hb dX4_pick_10 rfl (lv_at hl 3 rfl) ?_
    refine lv_iload_n hx hb dX4_pick_11 rfl (lv_at hl 0 rfl) ?_
    refine lv_icmp_lt (tgt := 17) hx hb dX4_pick_12 (by decide) (fun c12 => ?_) (fun c12 => ?_)
    · have hf := it_t c12 hf
      refine lv_iconst (v := 0) hx hb dX4_pick_17 (by decide) ?_
      refine lv_istore (lv' := [(4, .int 0), (3, .int r2), (0, .ref h), (1, .int p1), (2, .int p2)]) hx hb dX4_pick_18 hl (by decide) rfl (fun ls hl => ?_)
      refine lv_iconst (v := 1) hx hb dX4_pick_20 (by decide) ?_
      refine lv_istore (lv' := [(5, .int 1), (4, .int 0), (3, .int r2), (0, .ref h), (1, .int p1), (2, .int p2)]) hx hb dX4_pick_21 hl (by decide) rfl (fun ls hl => ?_)
      refine lv_iconst (v := 1) hx hb dX4_pick_23 (by decide) ?_
      refine lv_istore (lv' := [(6, .int 1), (5, .int 1), (4, .int 0), (3, .int r2), (0, .ref h), (1, .int p1), (2, .int p2)]) hx hb dX4_pick_24 hl (by decide) rfl (fun ls hl => ?_)
      refine lv_iload_n hx hb dX4_pick_26 rfl (lv_at hl 5 rfl) ?_
      refine lv_istore (lv' := [(7, .int p1), (6, .int 1), (5, .int 1), (4, .int 0), (3, .int r2), (0, .ref h), (1, .int p1), (2, .int p2)]) hx hb dX4_pick_27 hl (by decide) rfl (fun ls hl => ?_)
      refine lv_iconst (v := 0) hx hb dX4_pick_29 (by decide) ?_
      refine lv_istore (lv' := [(8, .int 0), (7, .int p1), (6, .int 1), (5, .int 1), (4, .int 0), (3, .int r2), (0, .ref h), (1, .int p1), (2, .int p2)]) hx hb dX4_pick_30 hl (by decide) rfl (fun ls hl => ?_)
      exact L32  FU  mth_2 mtp mbt p1 p2 0 1 1 p1 0 _ _ _ hf hP hD hS (lv_sub hl [6, 7, 8, 4, 3, 2, 1, 0] rfl)
    · have hf := it_f c12 hf
      refine lv_iconst (v := 0) hx hb dX4_pick_15 (by decide) ?_
      refine qf_s (Qf := Qf) hf ?_
      have hP9 : va_P G vwCl [(h, .inr (4, [.int mth_2, .int mtp, .int mbt, .int mmn, .ref a5, .int mrs, .ref a6, .long mlt, .long mlb, .long mht, .long mhb])), (a5, .inl (cI, 64, .inl mte)), (a6, .inl (cI, 64, .inl mru))] _ := hP.sub [0, 1, 2] rfl
      have hD9 : va_D A [(h, .inr (4, [.int mth_2, .int mtp, .int mbt, .int mmn, .ref a5, .int mrs, .ref a6, .long mlt, .long mlb, .long mht, .long mhb])), (a5, .inl (cI, 64, .inl mte)), (a6, .inl (cI, 64, .inl mru))] := hD.sub [0, 1, 2] (by decide) rfl
      rw [hQf]
      exact W.iret hx hb hr (fun t ht hW => ⟨⟨_, (), rfl, rfl, by rw [ht]; exact hP9, hD9⟩, hS.F ht⟩) hS.2.2 dX4_pick_16
def fX4_place_J89 (k34 : Int32 → Int32 → Int32 → Int32 → Option (Int32 × Int32)) (k42 : Int32 → Int32 → Int32 → Int32 → Int32 → Option (Int32 × Int32)) (mtp : Int32) (mbt : Int32) (mth : Int32) (x1 : Int32) (x3 : Int32) (x4 : Int32) (y0 : Int32) : Option (Int32 × Int32) :=
  nm (x4 + 1) fun v90 =>
  k42 mth x1 y0 x3 v90
def fX4_place_J88 (k34 : Int32 → Int32 → Int32 → Int32 → Option (Int32 × Int32)) (k42 : Int32 → Int32 → Int32 → Int32 → Int32 → Option (Int32 × Int32)) (mtp : Int32) (mbt : Int32) (mth : Int32) (x1 : Int32) (x2 : Int32) (x3 : Int32) (x4 : Int32) : Option (Int32 × Int32) :=
  fX4_place_J89 k34 k42 mtp mbt mth x1 x3 x4 x2
def fX4_place_B42 (k34 : Int32 → Int32 → Int32 → Int32 → Option (Int32 × Int32)) (k42 : Int32 → Int32 → Int32 → Int32 → Int32 → Option (Int32 × Int32)) (mtp : Int32) (mbt : Int32) (mth : Int32) (x1 : Int32) (x2 : Int32) (x3 : Int32) (x4 : Int32) : Option (Int32 × Int32) :=
  if x3 < x4 then
    nm (x3 + 1) fun v96 =>
    k34 mth x1 x2 v96
  else
    if 0 ≤ (lg_cmp ((Int32.toInt64 x4) * (Int32.toInt64 mbt)) ((Int32.toInt64 mtp) * (Int32.toInt64 x3))) then
      fX4_place_J88 k34 k42 mtp mbt mth x1 x2 x3 x4
    else
      bd1 (fX4_common (Int32.toInt64 x4) (Int32.toInt64 x3)) fun r74 =>
      if (lg_cmp r74 1) = 0 then
        fX4_place_J89 k34 k42 mtp mbt mth x1 x3 x4 (x2 + 1)
      else
        fX4_place_J88 k34 k42 mtp mbt mth x1 x2 x3 x4
def fX4_place_L42 (k34 : Int32 → Int32 → Int32 → Int32 → Option (Int32 × Int32)) (mtp : Int32) (mbt : Int32) : Nat → Int32 → Int32 → Int32 → Int32 → Int32 → Option (Int32 × Int32)
  | 0, _, _, _, _, _ => none
  | n + 1, mth, x1, x2, x3, x4 => fX4_place_B42 k34 (fX4_place_L42 k34 mtp mbt n) mtp mbt mth x1 x2 x3 x4
def fX4_place_B34 (k34 : Int32 → Int32 → Int32 → Int32 → Option (Int32 × Int32)) (mtp : Int32) (mbt : Int32) (mth : Int32) (x1 : Int32) (x2 : Int32) (x3 : Int32) : Option (Int32 × Int32) :=
  if x1 < x3 then
    some (x2, mth)
  else
    fX4_place_L42 k34 mtp mbt FU mth x1 x2 x3 1
def fX4_place_L34 (mtp : Int32) (mbt : Int32) : Nat → Int32 → Int32 → Int32 → Int32 → Option (Int32 × Int32)
  | 0, _, _, _, _ => none
  | n + 1, mth, x1, x2, x3 => fX4_place_B34 (fX4_place_L34  mtp mbt n) mtp mbt mth x1 x2 x3
def fX4_place_J31 (mtp : Int32) (mbt : Int32) (mth : Int32) (x1 : Int32) (y0 : Int32) : Option (Int32 × Int32) :=
  fX4_place_L34  mtp mbt FU mth x1 y0 1
def fX4_place (mtp : Int32) (mbt : Int32) (mth : Int32) (p1 : Int32) : Option (Int32 × Int32) :=
  bd1 (fX4_in (Int32.toInt64 p1) 1 200) fun r11 =>
  if r11 = 0 then
    some ((-1), 0)
  else
    if mtp ≤ 0 then
      fX4_place_J31  mtp mbt 0 p1 0
    else
      fX4_place_J31  mtp mbt 0 p1 1
set_option maxHeartbeats 4000000 in
set_option maxRecDepth 100000 in
theorem zX4_place (l : Launch) (G : va_G) (cI : ClassId) (sz : Nat) (h a5 a6 : Nat) (mth : Int32) (mtp : Int32) (mbt : Int32) (mmn : Int32) (mte : Nat → Int32) (mrs : Int32) (mru : Nat → Int32) (mlt : Int64) (mlb : Int64) (mht : Int64) (mhb : Int64) (p1 : Int32) {rv : Int32} {o_mth : Int32} (hf : fX4_place mtp mbt mth p1 = some (rv, o_mth)) : mMi l yX4_place wsX4_place ({ frames := 1, cells := 0, slots := 0, locals := 29 }) [.ref h, .int p1] G cI [(h, .inr (4, [.int mth, .int mtp, .int mbt, .int mmn, .ref a5, .int mrs, .ref a6, .long mlt, .long mlb, .long mht, .long mhb])), (a5, .inl (cI, 64, .inl mte)), (a6, .inl (cI, 64, .inl mru))] sz rv [(h, .inr (4, [.int o_mth, .int mtp, .int mbt, .int mmn, .ref a5, .int mrs, .ref a6, .long mlt, .long mlb, .long mht, .long mhb])), (a5, .inl (cI, 64, .inl mte)), (a6, .inl (cI, 64, .inl mru))] 0 0 := by
  refine Met.ofW (cc := cX4_place) (maxL := 5) (ret := (some .int)) (by decide) rfl ?_
  intro p e s m args below meth c s₁ B hml hv
  obtain ⟨rfl, hsz, hP, hK, hD0⟩ := hv
  have hx := B.exec
  have hb := B.bytes
  have hr := B.returns
  have hts := atoms_spec (ws := wsX4_place) B.pre
  have hown : s.vm.findClass RX4 = some m.cls := findClass_of_methodNamed B.named
  have hlocks := B.notSynchronized
  subst hsz
  have hD := hD0.self (sz := s.heap.size)
  generalize hAe : va_A [(h, .inr (4, [.int mth, .int mtp, .int mbt, .int mmn, .ref a5, .int mrs, .ref a6, .long mlt, .long mlb, .long mht, .long mhb])), (a5, .inl (cI, 64, .inl mte)), (a6, .inl (cI, 64, .inl mru))] s.heap.size = A at hD ⊢
  have hA : ∀ q : Nat, s.heap.size ≤ q → A q := fun q h => by rw [← hAe]; exact Or.inr h
  have hS : va_S A s.heap s.heap [] := va_S.rf
  have w0 := hts (.fieldLink RX4 23 "SternDeskModel" "thrown" "I") (by decide +kernel)
  have hinX4 : ∀ w ∈ u_ws RX4 TX4 11, w ∈ wsX4_place := by decide +kernel
  have w2 := hts (.constantLong RX4 74 (200)) (by decide +kernel)
  have w3 := hts (.fieldLink RX4 7 "SternDeskModel" "top" "I") (by decide +kernel)
  have w4 := hts (.fieldLink RX4 13 "SternDeskModel" "bottom" "I") (by decide +kernel)
  obtain ⟨Qf, hQf⟩ : ∃ f : (Int32 × Int32) → State → Prop, f = fun z => MQ below (va_Qi (fun (r : Int32) (_ : Unit) => r = z.1) (fun _ t => va_P G vwCl [(h, .inr (4, [.int z.2, .int mtp, .int mbt, .int mmn, .ref a5, .int mrs, .ref a6, .long mlt, .long mlb, .long mht, .long mhb])), (a5, .inl (cI, 64, .inl mte)), (a6, .inl (cI, 64, .inl mru))] t.heap ∧ va_D A [(h, .inr (4, [.int z.2, .int mtp, .int mbt, .int mmn, .ref a5, .int mrs, .ref a6, .long mlt, .long mlb, .long mht, .long mhb])), (a5, .inl (cI, 64, .inl mte)), (a6, .inl (cI, 64, .inl mru))]) A) ([.ref h, .int p1].toArray) s 0 0 A := ⟨_, rfl⟩
  suffices hgo : W p l e (headSpec wsX4_place ({ frames := 1, cells := 0, slots := 0, locals := 29 })).room s m ([.ref h, .int p1].toArray) below meth c s.heap [] 0 0 (Qf (rv, o_mth)) (entryFrame m ([.ref h, .int p1].toArray) 5) by rw [hQf] at hgo; exact hgo
  have J89 : ∀ (k34 : Int32 → Int32 → Int32 → Int32 → Option (Int32 × Int32)) (hk34 : ∀ (mth : Int32) (x1 : Int32) (x2 : Int32) (x3 : Int32) (H : Heap) (locs : List Loc) (ls : Array Slot), k34 mth x1 x2 x3 = some (rv, o_mth) → va_P G vwCl [(h, .inr (4, [.int mth, .int mtp, .int mbt, .int mmn, .ref a5, .int mrs, .ref a6, .long mlt, .long mlb, .long mht, .long mhb])), (a5, .inl (cI, 64, .inl mte)), (a6, .inl (cI, 64, .inl mru))] H → va_D A [(h, .inr (4, [.int mth, .int mtp, .int mbt, .int mmn, .ref a5, .int mrs, .ref a6, .long mlt, .long mlb, .long mht, .long mhb])), (a5, .inl (cI, 64, .inl mte)), (a6, .inl (cI, 64, .inl mru))] → va_S A s.heap H locs → lv_has ls 5 [(0, .ref h), (1, .int x1), (2, .int x2), (3, .int x3)] → W p l e (headSpec wsX4_place ({ frames := 1, cells := 0, slots := 0, locals := 29 })).room s m ([.ref h, .int p1].toArray) below meth c H locs 0 0 (Qf (rv, o_mth)) (F0 m 34 ls [])) (k42 : Int32 → Int32 → Int32 → Int32 → Int32 → Option (Int32 × Int32)) (hk42 : ∀ (mth : Int32) (x1 : Int32) (x2 : Int32) (x3 : Int32) (x4 : Int32) (H : Heap) (locs : List Loc) (ls : Array Slot), k42 mth x1 x2 x3 x4 = some (rv, o_mth) → va_P G vwCl [(h, .inr (4, [.int mth, .int mtp, .int mbt, .int mmn, .ref a5, .int mrs, .ref a6, .long mlt, .long mlb, .long mht, .long mhb])), (a5, .inl (cI, 64, .inl mte)), (a6, .inl (cI, 64, .inl mru))] H → va_D A [(h, .inr (4, [.int mth, .int mtp, .int mbt, .int mmn, .ref a5, .int mrs, .ref a6, .long mlt, .long mlb, .long mht, .long mhb])), (a5, .inl (cI, 64, .inl mte)), (a6, .inl (cI, 64, .inl mru))] → va_S A s.heap H locs → lv_has ls 5 [(0, .ref h), (1, .int x1), (2, .int x2), (3, .int x3), (4, .int x4)] → W p l e (headSpec wsX4_place ({ frames := 1, cells := 0, slots := 0, locals := 29 })).room s m ([.ref h, .int p1].toArray) below meth c H locs 0 0 (Qf (rv, o_mth)) (F0 m 42 ls [])) (mth : Int32) (x1 : Int32) (x3 : Int32) (x4 : Int32) (y0 : Int32) (H : Heap) (locs : List Loc) (ls : Array Slot), fX4_place_J89 k34 k42 mtp mbt mth x1 x3 x4 y0 = some (rv, o_mth) → va_P G vwCl [(h, .inr (4, [.int mth, .int mtp, .int mbt, .int mmn, .ref a5, .int mrs, .ref a6, .long mlt, .long mlb, .long mht, .long mhb])), (a5, .inl (cI, 64, .inl mte)), (a6, .inl (cI, 64, .inl mru))] H → va_D A [(h, .inr (4, [.int mth, .int mtp, .int mbt, .int mmn, .ref a5, .int mrs, .ref a6, .long mlt, .long mlb, .long mht, .long mhb])), (a5, .inl (cI, 64, .inl mte)), (a6, .inl (cI, 64, .inl mru))] → va_S A s.heap H locs → lv_has ls 5 [(0, .ref h), (1, .int x1), (3, .int x3), (4, .int x4)] → W p l e (headSpec wsX4_place ({ frames := 1, cells := 0, slots := 0, locals := 29 })).room s m ([.ref h, .int p1].toArray) below meth c H locs 0 0 (Qf (rv, o_mth)) (F0 m 89 ls [.int y0]) := by
    intro k34 hk34 k42 hk42  mth x1 x3 x4 y0 H locs ls hf hP hD hS hl
    unfold fX4_place_J89 at hf
    refine lv_istore_n (lv' := [(2, .int y0), (0, .ref h), (1, .int x1), (3, .int x3), (4, .int x4)]) hx hb dX4_place_89 rfl hl (by decide) rfl (fun ls hl => ?_)
    obtain ⟨v90, ev90⟩ : ∃ y : Int32, y = x4 + 1 := ⟨_, rfl⟩
    have hf := nm_s ev90 hf
    refine lv_iinc (v := v90) (lv' := [(4, .int v90), (2, .int y0), (0, .ref h), (1, .int x1), (3, .int x3)]) hx hb dX4_place_90 hl (k := 4) rfl (by rw [ev90]; rfl) (by decide) rfl (fun ls hl => ?_)
    refine lv_goto (tgt := 42) hx hb dX4_place_93 (by decide) ?_
    exact hk42  mth x1 y0 x3 v90 _ _ _ hf hP hD hS (lv_sub hl [2, 3, 1, 4, 0] rfl)
  have J88 : ∀ (k34 : Int32 → Int32 → Int32 → Int32 → Option (Int32 × Int32)) (hk34 : ∀ (mth : Int32) (x1 : Int32) (x2 : Int32) (x3 : Int32) (H : Heap) (locs : List Loc) (ls : Array Slot), k34 mth x1 x2 x3 = some (rv, o_mth) → va_P G vwCl [(h, .inr (4, [.int mth, .int mtp, .int mbt, .int mmn, .ref a5, .int mrs, .ref a6, .long mlt, .long mlb, .long mht, .long mhb])), (a5, .inl (cI, 64, .inl mte)), (a6, .inl (cI, 64, .inl mru))] H → va_D A [(h, .inr (4, [.int mth, .int mtp, .int mbt, .int mmn, .ref a5, .int mrs, .ref a6, .long mlt, .long mlb, .long mht, .long mhb])), (a5, .inl (cI, 64, .inl mte)), (a6, .inl (cI, 64, .inl mru))] → va_S A s.heap H locs → lv_has ls 5 [(0, .ref h), (1, .int x1), (2, .int x2), (3, .int x3)] → W p l e (headSpec wsX4_place ({ frames := 1, cells := 0, slots := 0, locals := 29 })).room s m ([.ref h, .int p1].toArray) below meth c H locs 0 0 (Qf (rv, o_mth)) (F0 m 34 ls [])) (k42 : Int32 → Int32 → Int32 → Int32 → Int32 → Option (Int32 × Int32)) (hk42 : ∀ (mth : Int32) (x1 : Int32) (x2 : Int32) (x3 : Int32) (x4 : Int32) (H : Heap) (locs : List Loc) (ls : Array Slot), k42 mth x1 x2 x3 x4 = some (rv, o_mth) → va_P G vwCl [(h, .inr (4, [.int mth, .int mtp, .int mbt, .int mmn, .ref a5, .int mrs, .ref a6, .long mlt, .long mlb, .long mht, .long mhb])), (a5, .inl (cI, 64, .inl mte)), (a6, .inl (cI, 64, .inl mru))] H → va_D A [(h, .inr (4, [.int mth, .int mtp, .int mbt, .int mmn, .ref a5, .int mrs, .ref a6, .long mlt, .long mlb, .long mht, .long mhb])), (a5, .inl (cI, 64, .inl mte)), (a6, .inl (cI, 64, .inl mru))] → va_S A s.heap H locs → lv_has ls 5 [(0, .ref h), (1, .int x1), (2, .int x2), (3, .int x3), (4, .int x4)] → W p l e (headSpec wsX4_place ({ frames := 1, cells := 0, slots := 0, locals := 29 })).room s m ([.ref h, .int p1].toArray) below meth c H locs 0 0 (Qf (rv, o_mth)) (F0 m 42 ls [])) (mth : Int32) (x1 : Int32) (x2 : Int32) (x3 : Int32) (x4 : Int32) (H : Heap) (locs : List Loc) (ls : Array Slot), fX4_place_J88 k34 k42 mtp mbt mth x1 x2 x3 x4 = some (rv, o_mth) → va_P G vwCl [(h, .inr (4, [.int mth, .int mtp, .int mbt, .int mmn, .ref a5, .int mrs, .ref a6, .long mlt, .long mlb, .long mht, .long mhb])), (a5, .inl (cI, 64, .inl mte)), (a6, .inl (cI, 64, .inl mru))] H → va_D A [(h, .inr (4, [.int mth, .int mtp, .int mbt, .int mmn, .ref a5, .int mrs, .ref a6, .long mlt, .long mlb, .long mht, .long mhb])), (a5, .inl (cI, 64, .inl mte)), (a6, .inl (cI, 64, .inl mru))] → va_S A s.heap H locs → lv_has ls 5 [(0, .ref h), (1, .int x1), (2, .int x2), (3, .int x3), (4, .int x4)] → W p l e (headSpec wsX4_place ({ frames := 1, cells := 0, slots := 0, locals := 29 })).room s m ([.ref h, .int p1].toArray) below meth c H locs 0 0 (Qf (rv, o_mth)) (F0 m 88 ls []) := by
    intro k34 hk34 k42 hk42  mth x1 x2 x3 x4 H locs ls hf hP hD hS hl
    unfold fX4_place_J88 at hf
    refine lv_iload_n hx hb dX4_place_88 rfl (lv_at hl 2 rfl) ?_
    exact J89 k34 hk34 k42 hk42  mth x1 x3 x4 x2 _ _ _ hf hP hD hS (lv_sub hl [0, 1, 3, 4] rfl)
  have B42 : ∀ (k34 : Int32 → Int32 → Int32 → Int32 → Option (Int32 × Int32)) (hk34 : ∀ (mth : Int32) (x1 : Int32) (x2 : Int32) (x3 : Int32) (H : Heap) (locs : List Loc) (ls : Array Slot), k34 mth x1 x2 x3 = some (rv, o_mth) → va_P G vwCl [(h, .inr (4, [.int mth, .int mtp, .int mbt, .int mmn, .ref a5, .int mrs, .ref a6, .long mlt, .long mlb, .long mht, .long mhb])), (a5, .inl (cI, 64, .inl mte)), (a6, .inl (cI, 64, .inl mru))] H → va_D A [(h, .inr (4, [.int mth, .int mtp, .int mbt, .int mmn, .ref a5, .int mrs, .ref a6, .long mlt, .long mlb, .long mht, .long mhb])), (a5, .inl (cI, 64, .inl mte)), (a6, .inl (cI, 64, .inl mru))] → va_S A s.heap H locs → lv_has ls 5 [(0, .ref h), (1, .int x1), (2, .int x2), (3, .int x3)] → W p l e (headSpec wsX4_place ({ frames := 1, cells := 0, slots := 0, locals := 29 })).room s m ([.ref h, .int p1].toArray) below meth c H locs 0 0 (Qf (rv, o_mth)) (F0 m 34 ls [])) (k42 : Int32 → Int32 → Int32 → Int32 → Int32 → Option (Int32 × Int32)) (hk42 : ∀ (mth : Int32) (x1 : Int32) (x2 : Int32) (x3 : Int32) (x4 : Int32) (H : Heap) (locs : List Loc) (ls : Array Slot), k42 mth x1 x2 x3 x4 = some (rv, o_mth) → va_P G vwCl [(h, .inr (4, [.int mth, .int mtp, .int mbt, .int mmn, .ref a5, .int mrs, .ref a6, .long mlt, .long mlb, .long mht, .long mhb])), (a5, .inl (cI, 64, .inl mte)), (a6, .inl (cI, 64, .inl mru))] H → va_D A [(h, .inr (4, [.int mth, .int mtp, .int mbt, .int mmn, .ref a5, .int mrs, .ref a6, .long mlt, .long mlb, .long mht, .long mhb])), (a5, .inl (cI, 64, .inl mte)), (a6, .inl (cI, 64, .inl mru))] → va_S A s.heap H locs → lv_has ls 5 [(0, .ref h), (1, .int x1), (2, .int x2), (3, .int x3), (4, .int x4)] → W p l e (headSpec wsX4_place ({ frames := 1, cells := 0, slots := 0, locals := 29 })).room s m ([.ref h, .int p1].toArray) below meth c H locs 0 0 (Qf (rv, o_mth)) (F0 m 42 ls [])) (mth : Int32) (x1 : Int32) (x2 : Int32) (x3 : Int32) (x4 : Int32) (H : Heap) (locs : List Loc) (ls : Array Slot), fX4_place_B42 k34 k42 mtp mbt mth x1 x2 x3 x4 = some (rv, o_mth) → va_P G vwCl [(h, .inr (4, [.int mth, .int mtp, .int mbt, .int mmn, .ref a5, .int mrs, .ref a6, .long mlt, .long mlb, .long mht, .long mhb])), (a5, .inl (cI, 64, .inl mte)), (a6, .inl (cI, 64, .inl mru))] H → va_D A [(h, .inr (4, [.int mth, .int mtp, .int mbt, .int mmn, .ref a5, .int mrs, .ref a6, .long mlt, .long mlb, .long mht, .long mhb])), (a5, .inl (cI, 64, .inl mte)), (a6, .inl (cI, 64, .inl mru))] → va_S A s.heap H locs → lv_has ls 5 [(0, .ref h), (1, .int x1), (2, .int x2), (3, .int x3), (4, .int x4)] → W p l e (headSpec wsX4_place ({ frames := 1, cells := 0, slots := 0, locals := 29 })).room s m ([.ref h, .int p1].toArray) below meth c H locs 0 0 (Qf (rv, o_mth)) (F0 m 42 ls []) := by
    intro k34 hk34 k42 hk42  mth x1 x2 x3 x4 H locs ls hf hP hD hS hl
    unfold fX4_place_B42 at hf
    refine lv_iload hx hb dX4_place_42 (lv_at hl 4 rfl) ?_
    refine lv_iload_n hx hb dX4_place_44 rfl (lv_at hl 3 rfl) ?_
    refine lv_icmp_gt (tgt := 96) hx hb dX4_place_45 (by decide) (fun c45 => ?_) (fun c45 => ?_)
    · have hf := it_t c45 hf
      obtain ⟨v96, ev96⟩ : ∃ y : Int32, y = x3 + 1 := ⟨_, rfl⟩
      have hf := nm_s ev96 hf
      refine lv_iinc (v := v96) (lv' := [(3, .int v96), (0, .ref h), (1, .int x1), (2, .int x2), (4, .int x4)]) hx hb dX4_place_96 hl (k := 3) rfl (by rw [ev96]; rfl) (by decide) rfl (fun ls hl => ?_)
      refine lv_goto (tgt := 34) hx hb dX4_place_99 (by decide) ?_
      exact hk34  mth x1 x2 v96 _ _ _ hf hP hD hS (lv_sub hl [1, 2, 3, 0] rfl)
    · have hf := it_f c45 hf
      refine lv_iload hx hb dX4_place_48 (lv_at hl 4 rfl) ?_
      refine lv_i2l hx hb dX4_place_50 rfl ?_
      refine lv_aload_n hx hb dX4_place_51 rfl (lv_at hl 0 rfl) ?_
      refine va_get (D := G) (ci := 4) (v := .int mbt) (C := RX4) (T := TX4) (N := 11) hx hb hts hinX4 hown hK.1 hP 0 rfl rfl 2 (by decide) w4 (fun _ h9 => h9) rfl dX4_place_52 ?_
      refine lv_i2l hx hb dX4_place_55 rfl ?_
      refine lv_lmul hx hb dX4_place_56 ?_
      refine lv_aload_n hx hb dX4_place_57 rfl (lv_at hl 0 rfl) ?_
      refine va_get (D := G) (ci := 4) (v := .int mtp) (C := RX4) (T := TX4) (N := 11) hx hb hts hinX4 hown hK.1 hP 0 rfl rfl 1 (by decide) w3 (fun _ h9 => h9) rfl dX4_place_58 ?_
      refine lv_i2l hx hb dX4_place_61 rfl ?_
      refine lv_iload_n hx hb dX4_place_62 rfl (lv_at hl 3 rfl) ?_
      refine lv_i2l hx hb dX4_place_63 rfl ?_
      refine lv_lmul hx hb dX4_place_64 ?_
      refine W.lcmp hx hb dX4_place_65 ?_
      refine lv_if_ge (tgt := 88) hx hb dX4_place_66 (by decide) (fun c66 => ?_) (fun c66 => ?_)
      · have hf := it_t c66 hf
        exact J88 k34 hk34 k42 hk42  mth x1 x2 x3 x4 _ _ _ hf hP hD hS (lv_sub hl [0, 1, 2, 3, 4] rfl)
      · have hf := it_f c66 hf
        refine lv_iload hx hb dX4_place_69 (lv_at hl 4 rfl) ?_
        refine lv_i2l hx hb dX4_place_71 rfl ?_
        refine lv_iload_n hx hb dX4_place_72 rfl (lv_at hl 3 rfl) ?_
        refine lv_i2l hx hb dX4_place_73 rfl ?_
        obtain ⟨r74, hv74, hf⟩ := bd1_s hf
        refine roSl (As := [.long (Int32.toInt64 x4), .long (Int32.toInt64 x3)]) (rest := []) ⟨hx, hb, hml, hown, hts⟩ (zX4_common l G cI _ (Int32.toInt64 x4) (Int32.toInt64 x3) hv74) (va_cwS 2 hts gX4_place_X4_common rfl rfl rfl (by decide +kernel) ⟨Nat.le_of_ble_eq_true rfl, Nat.le_of_ble_eq_true rfl⟩) hK hP rfl hl.1 rfl (Nat.le_of_ble_eq_true rfl) dX4_place_74 ⟨Nat.le_of_ble_eq_true rfl, Nat.le_of_ble_eq_true rfl⟩ hS hA (fun H locs hP hz74 hS => ?_)
        refine lv_lconst (v := 1) hx hb dX4_place_77 (by decide) ?_
        refine W.lcmp hx hb dX4_place_78 ?_
        refine lv_if_ne (tgt := 88) hx hb dX4_place_79 (by decide) (fun c79 => ?_) (fun c79 => ?_)
        · have hf := it_f c79 hf
          exact J88 k34 hk34 k42 hk42  mth x1 x2 x3 x4 _ _ _ hf hP hD hS (lv_sub hl [0, 1, 2, 3, 4] rfl)
        · have hf := it_t c79 hf
          refine lv_iload_n hx hb dX4_place_82 rfl (lv_at hl 2 rfl) ?_
          refine lv_iconst (v := 1) hx hb dX4_place_83 (by decide) ?_
          refine lv_iadd hx hb dX4_place_84 ?_
          refine lv_goto (tgt := 89) hx hb dX4_place_85 (by decide) ?_
          exact J89 k34 hk34 k42 hk42  mth x1 x3 x4 (x2 + 1) _ _ _ hf hP hD hS (lv_sub hl [0, 1, 3, 4] rfl)
  have L42 : ∀ (k34 : Int32 → Int32 → Int32 → Int32 → Option (Int32 × Int32)) (hk34 : ∀ (mth : Int32) (x1 : Int32) (x2 : Int32) (x3 : Int32) (H : Heap) (locs : List Loc) (ls : Array Slot), k34 mth x1 x2 x3 = some (rv, o_mth) → va_P G vwCl [(h, .inr (4, [.int mth, .int mtp, .int mbt, .int mmn, .ref a5, .int mrs, .ref a6, .long mlt, .long mlb, .long mht, .long mhb])), (a5, .inl (cI, 64, .inl mte)), (a6, .inl (cI, 64, .inl mru))] H → va_D A [(h, .inr (4, [.int mth, .int mtp, .int mbt, .int mmn, .ref a5, .int mrs, .ref a6, .long mlt, .long mlb, .long mht, .long mhb])), (a5, .inl (cI, 64, .inl mte)), (a6, .inl (cI, 64, .inl mru))] → va_S A s.heap H locs → lv_has ls 5 [(0, .ref h), (1, .int x1), (2, .int x2), (3, .int x3)] → W p l e (headSpec wsX4_place ({ frames := 1, cells := 0, slots := 0, locals := 29 })).room s m ([.ref h, .int p1].toArray) below meth c H locs 0 0 (Qf (rv, o_mth)) (F0 m 34 ls [])) (fu : Nat) (mth : Int32) (x1 : Int32) (x2 : Int32) (x3 : Int32) (x4 : Int32) (H : Heap) (locs : List Loc) (ls : Array Slot), fX4_place_L42 k34 mtp mbt fu mth x1 x2 x3 x4 = some (rv, o_mth) → va_P G vwCl [(h, .inr (4, [.int mth, .int mtp, .int mbt, .int mmn, .ref a5, .int mrs, .ref a6, .long mlt, .long mlb, .long mht, .long mhb])), (a5, .inl (cI, 64, .inl mte)), (a6, .inl (cI, 64, .inl mru))] H → va_D A [(h, .inr (4, [.int mth, .int mtp, .int mbt, .int mmn, .ref a5, .int mrs, .ref a6, .long mlt, .long mlb, .long mht, .long mhb])), (a5, .inl (cI, 64, .inl mte)), (a6, .inl (cI, 64, .inl mru))] → va_S A s.heap H locs → lv_has ls 5 [(0, .ref h), (1, .int x1), (2, .int x2), (3, .int x3), (4, .int x4)] → W p l e (headSpec wsX4_place ({ frames := 1, cells := 0, slots := 0, locals := 29 })).room s m ([.ref h, .int p1].toArray) below meth c H locs 0 0 (Qf (rv, o_mth)) (F0 m 42 ls []) := by
    intro k34 hk34 fu
    induction fu with
    | zero => intro  mth x1 x2 x3 x4 H locs ls hf; cases hf
    | succ fu ih => intro  mth x1 x2 x3 x4 H locs ls hf hP hD hS hl; exact B42 k34 hk34 (fX4_place_L42 k34 mtp mbt fu) ih  mth x1 x2 x3 x4 _ _ _ hf hP hD hS hl
  have B34 : ∀ (k34 : Int32 → Int32 → Int32 → Int32 → Option (Int32 × Int32)) (hk34 : ∀ (mth : Int32) (x1 : Int32) (x2 : Int32) (x3 : Int32) (H : Heap) (locs : List Loc) (ls : Array Slot), k34 mth x1 x2 x3 = some (rv, o_mth) → va_P G vwCl [(h, .inr (4, [.int mth, .int mtp, .int mbt, .int mmn, .ref a5, .int mrs, .ref a6, .long mlt, .long mlb, .long mht, .long mhb])), (a5, .inl (cI, 64, .inl mte)), (a6, .inl (cI, 64, .inl mru))] H → va_D A [(h, .inr (4, [.int mth, .int mtp, .int mbt, .int mmn, .ref a5, .int mrs, .ref a6, .long mlt, .long mlb, .long mht, .long mhb])), (a5, .inl (cI, 64, .inl mte)), (a6, .inl (cI, 64, .inl mru))] → va_S A s.heap H locs → lv_has ls 5 [(0, .ref h), (1, .int x1), (2, .int x2), (3, .int x3)] → W p l e (headSpec wsX4_place ({ frames := 1, cells := 0, slots := 0, locals := 29 })).room s m ([.ref h, .int p1].toArray) below meth c H locs 0 0 (Qf (rv, o_mth)) (F0 m 34 ls [])) (mth : Int32) (x1 : Int32) (x2 : Int32) (x3 : Int32) (H : Heap) (locs : List Loc) (ls : Array Slot), fX4_place_B34 k34 mtp mbt mth x1 x2 x3 = some (rv, o_mth) → va_P G vwCl [(h, .inr (4, [.int mth, .int mtp, .int mbt, .int mmn, .ref a5, .int mrs, .ref a6, .long mlt, .long mlb, .long mht, .long mhb])), (a5, .inl (cI, 64, .inl mte)), (a6, .inl (cI, 64, .inl mru))] H → va_D A [(h, .inr (4, [.int mth, .int mtp, .int mbt, .int mmn, .ref a5, .int mrs, .ref a6, .long mlt, .long mlb, .long mht, .long mhb])), (a5, .inl (cI, 64, .inl mte)), (a6, .inl (cI, 64, .inl mru))] → va_S A s.heap H locs → lv_has ls 5 [(0, .ref h), (1, .int x1), (2, .int x2), (3, .int x3)] → W p l e (headSpec wsX4_place ({ frames := 1, cells := 0, slots := 0, locals := 29 })).room s m ([.ref h, .int p1].toArray) below meth c H locs 0 0 (Qf (rv, o_mth)) (F0 m 34 ls []) := by
    intro k34 hk34  mth x1 x2 x3 H locs ls hf hP hD hS hl
    unfold fX4_place_B34 at hf
    refine lv_iload_n hx hb dX4_place_34 rfl (lv_at hl 3 rfl) ?_
    refine lv_iload_n hx hb dX4_place_35 rfl (lv_at hl 1 rfl) ?_
    refine lv_icmp_gt (tgt := 102) hx hb dX4_place_36 (by decide) (fun c36 => ?_) (fun c36 => ?_)
    · have hf := it_t c36 hf
      refine lv_iload_n hx hb dX4_place_102 rfl (lv_at hl 2 rfl) ?_
      refine qf_s (Qf := Qf) hf ?_
      have hP9 : va_P G vwCl [(h, .inr (4, [.int mth, .int mtp, .int mbt, .int mmn, .ref a5, .int mrs, .ref a6, .long mlt, .long mlb, .long mht, .long mhb])), (a5, .inl (cI, 64, .inl mte)), (a6, .inl (cI, 64, .inl mru))] _ := hP.sub [0, 1, 2] rfl
      have hD9 : va_D A [(h, .inr (4, [.int mth, .int mtp, .int mbt, .int mmn, .ref a5, .int mrs, .ref a6, .long mlt, .long mlb, .long mht, .long mhb])), (a5, .inl (cI, 64, .inl mte)), (a6, .inl (cI, 64, .inl mru))] := hD.sub [0, 1, 2] (by decide) rfl
      rw [hQf]
      exact W.iret hx hb hr (fun t ht hW => ⟨⟨_, (), rfl, rfl, by rw [ht]; exact hP9, hD9⟩, hS.F ht⟩) hS.2.2 dX4_place_103
    · have hf := it_f c36 hf
      refine lv_iconst (v := 1) hx hb dX4_place_39 (by decide) ?_
      refine lv_istore (lv' := [(4, .int 1), (0, .ref h), (1, .int x1), (2, .int x2), (3, .int x3)]) hx hb dX4_place_40 hl (by decide) rfl (fun ls hl => ?_)
      exact L42 k34 hk34 FU  mth x1 x2 x3 1 _ _ _ hf hP hD hS (lv_sub hl [1, 2, 3, 4, 0] rfl)
  have L34 : ∀ (fu : Nat) (mth : Int32) (x1 : Int32) (x2 : Int32) (x3 : Int32) (H : Heap) (locs : List Loc) (ls : Array Slot), fX4_place_L34  mtp mbt fu mth x1 x2 x3 = some (rv, o_mth) → va_P G vwCl [(h, .inr (4, [.int mth, .int mtp, .int mbt, .int mmn, .ref a5, .int mrs, .ref a6, .long mlt, .long mlb, .long mht, .long mhb])), (a5, .inl (cI, 64, .inl mte)), (a6, .inl (cI, 64, .inl mru))] H → va_D A [(h, .inr (4, [.int mth, .int mtp, .int mbt, .int mmn, .ref a5, .int mrs, .ref a6, .long mlt, .long mlb, .long mht, .long mhb])), (a5, .inl (cI, 64, .inl mte)), (a6, .inl (cI, 64, .inl mru))] → va_S A s.heap H locs → lv_has ls 5 [(0, .ref h), (1, .int x1), (2, .int x2), (3, .int x3)] → W p l e (headSpec wsX4_place ({ frames := 1, cells := 0, slots := 0, locals := 29 })).room s m ([.ref h, .int p1].toArray) below meth c H locs 0 0 (Qf (rv, o_mth)) (F0 m 34 ls []) := by
    intro  fu
    induction fu with
    | zero => intro  mth x1 x2 x3 H locs ls hf; cases hf
    | succ fu ih => intro  mth x1 x2 x3 H locs ls hf hP hD hS hl; exact B34 (fX4_place_L34  mtp mbt fu) ih  mth x1 x2 x3 _ _ _ hf hP hD hS hl
  have J31 : ∀ (mth : Int32) (x1 : Int32) (y0 : Int32) (H : Heap) (locs : List Loc) (ls : Array Slot), fX4_place_J31  mtp mbt mth x1 y0 = some (rv, o_mth) → va_P G vwCl [(h, .inr (4, [.int mth, .int mtp, .int mbt, .int mmn, .ref a5, .int mrs, .ref a6, .long mlt, .long mlb, .long mht, .long mhb])), (a5, .inl (cI, 64, .inl mte)), (a6, .inl (cI, 64, .inl mru))] H → va_D A [(h, .inr (4, [.int mth, .int mtp, .int mbt, .int mmn, .ref a5, .int mrs, .ref a6, .long mlt, .long mlb, .long mht, .long mhb])), (a5, .inl (cI, 64, .inl mte)), (a6, .inl (cI, 64, .inl mru))] → va_S A s.heap H locs → lv_has ls 5 [(0, .ref h), (1, .int x1)] → W p l e (headSpec wsX4_place ({ frames := 1, cells := 0, slots := 0, locals := 29 })).room s m ([.ref h, .int p1].toArray) below meth c H locs 0 0 (Qf (rv, o_mth)) (F0 m 31 ls [.int y0]) := by
    intro   mth x1 y0 H locs ls hf hP hD hS hl
    unfold fX4_place_J31 at hf
    refine lv_istore_n (lv' := [(2, .int y0), (0, .ref h), (1, .int x1)]) hx hb dX4_place_31 rfl hl (by decide) rfl (fun ls hl => ?_)
    refine lv_iconst (v := 1) hx hb dX4_place_32 (by decide) ?_
    refine lv_istore_n (lv' := [(3, .int 1), (2, .int y0), (0, .ref h), (1, .int x1)]) hx hb dX4_place_33 rfl hl (by decide) rfl (fun ls hl => ?_)
    exact L34  FU  mth x1 y0 1 _ _ _ hf hP hD hS (lv_sub hl [2, 3, 1, 0] rfl)
  have hl := lv_entry ([.ref h, .int p1]) (n := 5) (Nat.le_of_ble_eq_true rfl)
  rw [lg_entry_eq]
  generalize (lg_sl ([.ref h, .int p1]) ++ List.replicate (5 - (lg_sl ([.ref h, .int p1])).length) Slot.unset).toArray = ls at hl ⊢
  have hl : lv_has ls 5 [(0, .ref h), (1, .int p1)] := hl
  unfold fX4_place at hf
  refine lv_aload_n hx hb dX4_place_0 rfl (lv_at hl 0 rfl) ?_
  refine lv_iconst (v := 0) hx hb dX4_place_1 (by decide) ?_
  refine va_put (D := G) (ci := 4) (v := .int 0) (ty := .int) (C := RX4) (T := TX4) (N := 11) hx hb hts hinX4 tyX4 tyX4_ok nmX4 hown hK.1 hP hD hS 0 rfl rfl 0 (by decide) w0 (fun _ h9 => h9) rfl (by decide +kernel) rfl rfl (Nat.le_of_ble_eq_true rfl) dX4_place_2 (fun H locs hP hD hS => ?_)
  have hP : va_P G vwCl [(h, .inr (4, [.int 0, .int mtp, .int mbt, .int mmn, .ref a5, .int mrs, .ref a6, .long mlt, .long mlb, .long mht, .long mhb])), (a5, .inl (cI, 64, .inl mte)), (a6, .inl (cI, 64, .inl mru))] H := hP
  have hD : va_D A [(h, .inr (4, [.int 0, .int mtp, .int mbt, .int mmn, .ref a5, .int mrs, .ref a6, .long mlt, .long mlb, .long mht, .long mhb])), (a5, .inl (cI, 64, .inl mte)), (a6, .inl (cI, 64, .inl mru))] := hD
  refine lv_iload_n hx hb dX4_place_5 rfl (lv_at hl 1 rfl) ?_
  refine lv_i2l hx hb dX4_place_6 rfl ?_
  refine lv_lconst (v := 1) hx hb dX4_place_7 (by decide) ?_
  refine lv_ldc2 hx hb hown w2 dX4_place_8 ?_
  obtain ⟨r11, hv11, hf⟩ := bd1_s hf
  refine roSi (As := [.long (Int32.toInt64 p1), .long 1, .long 200]) (rest := []) ⟨hx, hb, hml, hown, hts⟩ (zX4_in l G cI _ (Int32.toInt64 p1) 1 200 hv11) (va_cwS 3 hts gX4_place_X4_in rfl rfl rfl (by decide +kernel) ⟨Nat.le_of_ble_eq_true rfl, Nat.le_of_ble_eq_true rfl⟩) hK hP rfl hl.1 rfl (Nat.le_of_ble_eq_true rfl) dX4_place_11 ⟨Nat.le_of_ble_eq_true rfl, Nat.le_of_ble_eq_true rfl⟩ hS hA (fun H locs hP hz11 hS => ?_)
  refine lv_if_ne (tgt := 19) hx hb dX4_place_14 (by decide) (fun c14 => ?_) (fun c14 => ?_)
  · have hf := it_f c14 hf
    refine lv_aload_n hx hb dX4_place_19 rfl (lv_at hl 0 rfl) ?_
    refine va_get (D := G) (ci := 4) (v := .int mtp) (C := RX4) (T := TX4) (N := 11) hx hb hts hinX4 hown hK.1 hP 0 rfl rfl 1 (by decide) w3 (fun _ h9 => h9) rfl dX4_place_20 ?_
    refine lv_if_le (tgt := 30) hx hb dX4_place_23 (by decide) (fun c23 => ?_) (fun c23 => ?_)
    · have hf := it_t c23 hf
      refine lv_iconst (v := 0) hx hb dX4_place_30 (by decide) ?_
      exact J31   0 p1 0 _ _ _ hf hP hD hS (lv_sub hl [0, 1] rfl)
    · have hf := it_f c23 hf
      refine lv_iconst (v := 1) hx hb dX4_place_26 (by decide) ?_
      refine lv_goto (tgt := 31) hx hb dX4_place_27 (by decide) ?_
      exact J31   0 p1 1 _ _ _ hf hP hD hS (lv_sub hl [0, 1] rfl)
  · have hf := it_t c14 hf
    refine lv_iconst (v := (-1)) hx hb dX4_place_17 (by decide) ?_
    refine qf_s (Qf := Qf) hf ?_
    have hP9 : va_P G vwCl [(h, .inr (4, [.int 0, .int mtp, .int mbt, .int mmn, .ref a5, .int mrs, .ref a6, .long mlt, .long mlb, .long mht, .long mhb])), (a5, .inl (cI, 64, .inl mte)), (a6, .inl (cI, 64, .inl mru))] _ := hP.sub [0, 1, 2] rfl
    have hD9 : va_D A [(h, .inr (4, [.int 0, .int mtp, .int mbt, .int mmn, .ref a5, .int mrs, .ref a6, .long mlt, .long mlb, .long mht, .long mhb])), (a5, .inl (cI, 64, .inl mte)), (a6, .inl (cI, 64, .inl mru))] := hD.sub [0, 1, 2] (by decide) rfl
    rw [hQf]
    exact W.iret hx hb hr (fun t ht hW => ⟨⟨_, (), rfl, rfl, by rw [ht]; exact hP9, hD9⟩, hS.F ht⟩) hS.2.2 dX4_place_18
def fX4_floors_B26 (k26 : Int32 → Int32 → Int64 → Int64 → Option (Int64 × Int32)) (mtp : Int32) (mbt : Int32) (mth : Int32) (x1 : Int32) (x2 : Int64) (x4 : Int64) : Option (Int64 × Int32) :=
  if 0 ≤ (lg_cmp x4 (Int32.toInt64 x1)) then
    some (x2, mth)
  else
    ckL (Int32.toInt64 mbt) <|
    nm (x2 + ((x4 * (Int32.toInt64 mtp)) / (Int32.toInt64 mbt))) fun v50 =>
    nm (x4 + 1) fun v55 =>
    k26 mth x1 v50 v55
def fX4_floors_L26 (mtp : Int32) (mbt : Int32) : Nat → Int32 → Int32 → Int64 → Int64 → Option (Int64 × Int32)
  | 0, _, _, _, _ => none
  | n + 1, mth, x1, x2, x4 => fX4_floors_B26 (fX4_floors_L26  mtp mbt n) mtp mbt mth x1 x2 x4
def fX4_floors (mtp : Int32) (mbt : Int32) (mth : Int32) (p1 : Int32) : Option (Int64 × Int32) :=
  bd1 (fX4_in (Int32.toInt64 p1) 0 100000) fun r11 =>
  if r11 = 0 then
    some ((-1), 0)
  else
    fX4_floors_L26  mtp mbt FU 0 p1 0 0
set_option maxHeartbeats 4000000 in
set_option maxRecDepth 100000 in
theorem zX4_floors (l : Launch) (G : va_G) (cI : ClassId) (sz : Nat) (h a5 a6 : Nat) (mth : Int32) (mtp : Int32) (mbt : Int32) (mmn : Int32) (mte : Nat → Int32) (mrs : Int32) (mru : Nat → Int32) (mlt : Int64) (mlb : Int64) (mht : Int64) (mhb : Int64) (p1 : Int32) {rv : Int64} {o_mth : Int32} (hf : fX4_floors mtp mbt mth p1 = some (rv, o_mth)) : mMl l yX4_floors wsX4_floors ({ frames := 1, cells := 0, slots := 0, locals := 25 }) [.ref h, .int p1] G cI [(h, .inr (4, [.int mth, .int mtp, .int mbt, .int mmn, .ref a5, .int mrs, .ref a6, .long mlt, .long mlb, .long mht, .long mhb])), (a5, .inl (cI, 64, .inl mte)), (a6, .inl (cI, 64, .inl mru))] sz rv [(h, .inr (4, [.int o_mth, .int mtp, .int mbt, .int mmn, .ref a5, .int mrs, .ref a6, .long mlt, .long mlb, .long mht, .long mhb])), (a5, .inl (cI, 64, .inl mte)), (a6, .inl (cI, 64, .inl mru))] 0 0 := by
  refine Met.ofW (cc := cX4_floors) (maxL := 6) (ret := (some .long)) (by decide) rfl ?_
  intro p e s m args below meth c s₁ B hml hv
  obtain ⟨rfl, hsz, hP, hK, hD0⟩ := hv
  have hx := B.exec
  have hb := B.bytes
  have hr := B.returns
  have hts := atoms_spec (ws := wsX4_floors) B.pre
  have hown : s.vm.findClass RX4 = some m.cls := findClass_of_methodNamed B.named
  have hlocks := B.notSynchronized
  subst hsz
  have hD := hD0.self (sz := s.heap.size)
  generalize hAe : va_A [(h, .inr (4, [.int mth, .int mtp, .int mbt, .int mmn, .ref a5, .int mrs, .ref a6, .long mlt, .long mlb, .long mht, .long mhb])), (a5, .inl (cI, 64, .inl mte)), (a6, .inl (cI, 64, .inl mru))] s.heap.size = A at hD ⊢
  have hA : ∀ q : Nat, s.heap.size ≤ q → A q := fun q h => by rw [← hAe]; exact Or.inr h
  have hS : va_S A s.heap s.heap [] := va_S.rf
  have w0 := hts (.fieldLink RX4 23 "SternDeskModel" "thrown" "I") (by decide +kernel)
  have hinX4 : ∀ w ∈ u_ws RX4 TX4 11, w ∈ wsX4_floors := by decide +kernel
  have w2 := hts (.constantLong RX4 30 (100000)) (by decide +kernel)
  have w3 := hts (.constantLong RX4 80 (-1)) (by decide +kernel)
  have w4 := hts (.fieldLink RX4 7 "SternDeskModel" "top" "I") (by decide +kernel)
  have w5 := hts (.fieldLink RX4 13 "SternDeskModel" "bottom" "I") (by decide +kernel)
  obtain ⟨Qf, hQf⟩ : ∃ f : (Int64 × Int32) → State → Prop, f = fun z => MQ below (va_Ql (fun (r : Int64) (_ : Unit) => r = z.1) (fun _ t => va_P G vwCl [(h, .inr (4, [.int z.2, .int mtp, .int mbt, .int mmn, .ref a5, .int mrs, .ref a6, .long mlt, .long mlb, .long mht, .long mhb])), (a5, .inl (cI, 64, .inl mte)), (a6, .inl (cI, 64, .inl mru))] t.heap ∧ va_D A [(h, .inr (4, [.int z.2, .int mtp, .int mbt, .int mmn, .ref a5, .int mrs, .ref a6, .long mlt, .long mlb, .long mht, .long mhb])), (a5, .inl (cI, 64, .inl mte)), (a6, .inl (cI, 64, .inl mru))]) A) ([.ref h, .int p1].toArray) s 0 0 A := ⟨_, rfl⟩
  suffices hgo : W p l e (headSpec wsX4_floors ({ frames := 1, cells := 0, slots := 0, locals := 25 })).room s m ([.ref h, .int p1].toArray) below meth c s.heap [] 0 0 (Qf (rv, o_mth)) (entryFrame m ([.ref h, .int p1].toArray) 6) by rw [hQf] at hgo; exact hgo
  have B26 : ∀ (k26 : Int32 → Int32 → Int64 → Int64 → Option (Int64 × Int32)) (hk26 : ∀ (mth : Int32) (x1 : Int32) (x2 : Int64) (x4 : Int64) (H : Heap) (locs : List Loc) (ls : Array Slot), k26 mth x1 x2 x4 = some (rv, o_mth) → va_P G vwCl [(h, .inr (4, [.int mth, .int mtp, .int mbt, .int mmn, .ref a5, .int mrs, .ref a6, .long mlt, .long mlb, .long mht, .long mhb])), (a5, .inl (cI, 64, .inl mte)), (a6, .inl (cI, 64, .inl mru))] H → va_D A [(h, .inr (4, [.int mth, .int mtp, .int mbt, .int mmn, .ref a5, .int mrs, .ref a6, .long mlt, .long mlb, .long mht, .long mhb])), (a5, .inl (cI, 64, .inl mte)), (a6, .inl (cI, 64, .inl mru))] → va_S A s.heap H locs → lv_has ls 6 [(0, .ref h), (1, .int x1), (2, .long x2), (4, .long x4)] → W p l e (headSpec wsX4_floors ({ frames := 1, cells := 0, slots := 0, locals := 25 })).room s m ([.ref h, .int p1].toArray) below meth c H locs 0 0 (Qf (rv, o_mth)) (F0 m 26 ls [])) (mth : Int32) (x1 : Int32) (x2 : Int64) (x4 : Int64) (H : Heap) (locs : List Loc) (ls : Array Slot), fX4_floors_B26 k26 mtp mbt mth x1 x2 x4 = some (rv, o_mth) → va_P G vwCl [(h, .inr (4, [.int mth, .int mtp, .int mbt, .int mmn, .ref a5, .int mrs, .ref a6, .long mlt, .long mlb, .long mht, .long mhb])), (a5, .inl (cI, 64, .inl mte)), (a6, .inl (cI, 64, .inl mru))] H → va_D A [(h, .inr (4, [.int mth, .int mtp, .int mbt, .int mmn, .ref a5, .int mrs, .ref a6, .long mlt, .long mlb, .long mht, .long mhb])), (a5, .inl (cI, 64, .inl mte)), (a6, .inl (cI, 64, .inl mru))] → va_S A s.heap H locs → lv_has ls 6 [(0, .ref h), (1, .int x1), (2, .long x2), (4, .long x4)] → W p l e (headSpec wsX4_floors ({ frames := 1, cells := 0, slots := 0, locals := 25 })).room s m ([.ref h, .int p1].toArray) below meth c H locs 0 0 (Qf (rv, o_mth)) (F0 m 26 ls []) := by
    intro k26 hk26  mth x1 x2 x4 H locs ls hf hP hD hS hl
    unfold fX4_floors_B26 at hf
    refine lv_lload hx hb dX4_floors_26 (lv_at hl 3 rfl) ?_
    refine lv_iload_n hx hb dX4_floors_28 rfl (lv_at hl 1 rfl) ?_
    refine lv_i2l hx hb dX4_floors_29 rfl ?_
    refine W.lcmp hx hb dX4_floors_30 ?_
    refine lv_if_ge (tgt := 60) hx hb dX4_floors_31 (by decide) (fun c31 => ?_) (fun c31 => ?_)
    · have hf := it_t c31 hf
      refine lv_lload_n hx hb dX4_floors_60 rfl (lv_at hl 2 rfl) ?_
      refine qf_s (Qf := Qf) hf ?_
      have hP9 : va_P G vwCl [(h, .inr (4, [.int mth, .int mtp, .int mbt, .int mmn, .ref a5, .int mrs, .ref a6, .long mlt, .long mlb, .long mht, .long mhb])), (a5, .inl (cI, 64, .inl mte)), (a6, .inl (cI, 64, .inl mru))] _ := hP.sub [0, 1, 2] rfl
      have hD9 : va_D A [(h, .inr (4, [.int mth, .int mtp, .int mbt, .int mmn, .ref a5, .int mrs, .ref a6, .long mlt, .long mlb, .long mht, .long mhb])), (a5, .inl (cI, 64, .inl mte)), (a6, .inl (cI, 64, .inl mru))] := hD.sub [0, 1, 2] (by decide) rfl
      rw [hQf]
      exact W.lret hx hb hr (fun t ht hW => ⟨⟨_, (), rfl, rfl, by rw [ht]; exact hP9, hD9⟩, hS.F ht⟩) hS.2.2 dX4_floors_61
    · have hf := it_f c31 hf
      refine lv_lload_n hx hb dX4_floors_34 rfl (lv_at hl 2 rfl) ?_
      refine lv_lload hx hb dX4_floors_35 (lv_at hl 3 rfl) ?_
      refine lv_aload_n hx hb dX4_floors_37 rfl (lv_at hl 0 rfl) ?_
      refine va_get (D := G) (ci := 4) (v := .int mtp) (C := RX4) (T := TX4) (N := 11) hx hb hts hinX4 hown hK.1 hP 0 rfl rfl 1 (by decide) w4 (fun _ h9 => h9) rfl dX4_floors_38 ?_
      refine lv_i2l hx hb dX4_floors_41 rfl ?_
      refine lv_lmul hx hb dX4_floors_42 ?_
      refine lv_aload_n hx hb dX4_floors_43 rfl (lv_at hl 0 rfl) ?_
      refine va_get (D := G) (ci := 4) (v := .int mbt) (C := RX4) (T := TX4) (N := 11) hx hb hts hinX4 hown hK.1 hP 0 rfl rfl 2 (by decide) w5 (fun _ h9 => h9) rfl dX4_floors_44 ?_
      refine lv_i2l hx hb dX4_floors_47 rfl ?_
      obtain ⟨hz48, hf⟩ := ckL_s hf
      refine lv_ldiv hx hb dX4_floors_48 hz48 ?_
      refine lv_ladd hx hb dX4_floors_49 ?_
      refine lv_topl (fun v50 ev50 => ?_)
      have hf := nm_s ev50 hf
      refine lv_lstore_n (lv' := [(2, .long v50), (0, .ref h), (1, .int x1), (4, .long x4)]) hx hb dX4_floors_50 rfl hl (by decide) rfl (fun ls hl => ?_)
      refine lv_lload hx hb dX4_floors_51 (lv_at hl 3 rfl) ?_
      refine lv_lconst (v := 1) hx hb dX4_floors_53 (by decide) ?_
      refine lv_ladd hx hb dX4_floors_54 ?_
      refine lv_topl (fun v55 ev55 => ?_)
      have hf := nm_s ev55 hf
      refine lv_lstore (lv' := [(4, .long v55), (2, .long v50), (0, .ref h), (1, .int x1)]) hx hb dX4_floors_55 hl (by decide) rfl (fun ls hl => ?_)
      refine lv_goto (tgt := 26) hx hb dX4_floors_57 (by decide) ?_
      exact hk26  mth x1 v50 v55 _ _ _ hf hP hD hS (lv_sub hl [2, 3, 1, 0] rfl)
  have L26 : ∀ (fu : Nat) (mth : Int32) (x1 : Int32) (x2 : Int64) (x4 : Int64) (H : Heap) (locs : List Loc) (ls : Array Slot), fX4_floors_L26  mtp mbt fu mth x1 x2 x4 = some (rv, o_mth) → va_P G vwCl [(h, .inr (4, [.int mth, .int mtp, .int mbt, .int mmn, .ref a5, .int mrs, .ref a6, .long mlt, .long mlb, .long mht, .long mhb])), (a5, .inl (cI, 64, .inl mte)), (a6, .inl (cI, 64, .inl mru))] H → va_D A [(h, .inr (4, [.int mth, .int mtp, .int mbt, .int mmn, .ref a5, .int mrs, .ref a6, .long mlt, .long mlb, .long mht, .long mhb])), (a5, .inl (cI, 64, .inl mte)), (a6, .inl (cI, 64, .inl mru))] → va_S A s.heap H locs → lv_has ls 6 [(0, .ref h), (1, .int x1), (2, .long x2), (4, .long x4)] → W p l e (headSpec wsX4_floors ({ frames := 1, cells := 0, slots := 0, locals := 25 })).room s m ([.ref h, .int p1].toArray) below meth c H locs 0 0 (Qf (rv, o_mth)) (F0 m 26 ls []) := by
    intro  fu
    induction fu with
    | zero => intro  mth x1 x2 x4 H locs ls hf; cases hf
    | succ fu ih => intro  mth x1 x2 x4 H locs ls hf hP hD hS hl; exact B26 (fX4_floors_L26  mtp mbt fu) ih  mth x1 x2 x4 _ _ _ hf hP hD hS hl
  have hl := lv_entry ([.ref h, .int p1]) (n := 6) (Nat.le_of_ble_eq_true rfl)
  rw [lg_entry_eq]
  generalize (lg_sl ([.ref h, .int p1]) ++ List.replicate (6 - (lg_sl ([.ref h, .int p1])).length) Slot.unset).toArray = ls at hl ⊢
  have hl : lv_has ls 6 [(0, .ref h), (1, .int p1)] := hl
  unfold fX4_floors at hf
  refine lv_aload_n hx hb dX4_floors_0 rfl (lv_at hl 0 rfl) ?_
  refine lv_iconst (v := 0) hx hb dX4_floors_1 (by decide) ?_
  refine va_put (D := G) (ci := 4) (v := .int 0) (ty := .int) (C := RX4) (T := TX4) (N := 11) hx hb hts hinX4 tyX4 tyX4_ok nmX4 hown hK.1 hP hD hS 0 rfl rfl 0 (by decide) w0 (fun _ h9 => h9) rfl (by decide +kernel) rfl rfl (Nat.le_of_ble_eq_true rfl) dX4_floors_2 (fun H locs hP hD hS => ?_)
  have hP : va_P G vwCl [(h, .inr (4, [.int 0, .int mtp, .int mbt, .int mmn, .ref a5, .int mrs, .ref a6, .long mlt, .long mlb, .long mht, .long mhb])), (a5, .inl (cI, 64, .inl mte)), (a6, .inl (cI, 64, .inl mru))] H := hP
  have hD : va_D A [(h, .inr (4, [.int 0, .int mtp, .int mbt, .int mmn, .ref a5, .int mrs, .ref a6, .long mlt, .long mlb, .long mht, .long mhb])), (a5, .inl (cI, 64, .inl mte)), (a6, .inl (cI, 64, .inl mru))] := hD
  refine lv_iload_n hx hb dX4_floors_5 rfl (lv_at hl 1 rfl) ?_
  refine lv_i2l hx hb dX4_floors_6 rfl ?_
  refine lv_lconst (v := 0) hx hb dX4_floors_7 (by decide) ?_
  refine lv_ldc2 hx hb hown w2 dX4_floors_8 ?_
  obtain ⟨r11, hv11, hf⟩ := bd1_s hf
  refine roSi (As := [.long (Int32.toInt64 p1), .long 0, .long 100000]) (rest := []) ⟨hx, hb, hml, hown, hts⟩ (zX4_in l G cI _ (Int32.toInt64 p1) 0 100000 hv11) (va_cwS 3 hts gX4_floors_X4_in rfl rfl rfl (by decide +kernel) ⟨Nat.le_of_ble_eq_true rfl, Nat.le_of_ble_eq_true rfl⟩) hK hP rfl hl.1 rfl (Nat.le_of_ble_eq_true rfl) dX4_floors_11 ⟨Nat.le_of_ble_eq_true rfl, Nat.le_of_ble_eq_true rfl⟩ hS hA (fun H locs hP hz11 hS => ?_)
  refine lv_if_ne (tgt := 21) hx hb dX4_floors_14 (by decide) (fun c14 => ?_) (fun c14 => ?_)
  · have hf := it_f c14 hf
    refine lv_lconst (v := 0) hx hb dX4_floors_21 (by decide) ?_
    refine lv_lstore_n (lv' := [(2, .long 0), (0, .ref h), (1, .int p1)]) hx hb dX4_floors_22 rfl hl (by decide) rfl (fun ls hl => ?_)
    refine lv_lconst (v := 0) hx hb dX4_floors_23 (by decide) ?_
    refine lv_lstore (lv' := [(4, .long 0), (2, .long 0), (0, .ref h), (1, .int p1)]) hx hb dX4_floors_24 hl (by decide) rfl (fun ls hl => ?_)
    exact L26  FU  0 p1 0 0 _ _ _ hf hP hD hS (lv_sub hl [2, 3, 1, 0] rfl)
  · have hf := it_t c14 hf
    refine lv_ldc2 hx hb hown w3 dX4_floors_17 ?_
    refine qf_s (Qf := Qf) hf ?_
    have hP9 : va_P G vwCl [(h, .inr (4, [.int 0, .int mtp, .int mbt, .int mmn, .ref a5, .int mrs, .ref a6, .long mlt, .long mlb, .long mht, .long mhb])), (a5, .inl (cI, 64, .inl mte)), (a6, .inl (cI, 64, .inl mru))] _ := hP.sub [0, 1, 2] rfl
    have hD9 : va_D A [(h, .inr (4, [.int 0, .int mtp, .int mbt, .int mmn, .ref a5, .int mrs, .ref a6, .long mlt, .long mlb, .long mht, .long mhb])), (a5, .inl (cI, 64, .inl mte)), (a6, .inl (cI, 64, .inl mru))] := hD.sub [0, 1, 2] (by decide) rfl
    rw [hQf]
    exact W.lret hx hb hr (fun t ht hW => ⟨⟨_, (), rfl, rfl, by rw [ht]; exact hP9, hD9⟩, hS.F ht⟩) hS.2.2 dX4_floors_20
def fX4_sawteeth_B12 (k12 : Int32 → Int64 → Int64 → Int64 → Option (Int64 × Int32)) (mtp : Int32) (mbt : Int32) (mth : Int32) (x1 : Int64) (x3 : Int64) (x5 : Int64) : Option (Int64 × Int32) :=
  if 0 ≤ (lg_cmp x5 (Int32.toInt64 mbt)) then
    ckL (2 * (Int32.toInt64 mbt)) <|
    some (((3 * x1) / (2 * (Int32.toInt64 mbt))), mth)
  else
    ckL (Int32.toInt64 mbt) <|
    nm ((x3 + (Int32.toInt64 mtp)) - (x3 + (Int32.toInt64 mtp)) / (Int32.toInt64 mbt) * (Int32.toInt64 mbt)) fun v36 =>
    nm (x1 + (((2 * x5) - (Int32.toInt64 mbt)) * ((2 * v36) - (Int32.toInt64 mbt)))) fun v63 =>
    nm (x5 + 1) fun v68 =>
    k12 mth v63 v36 v68
def fX4_sawteeth_L12 (mtp : Int32) (mbt : Int32) : Nat → Int32 → Int64 → Int64 → Int64 → Option (Int64 × Int32)
  | 0, _, _, _, _ => none
  | n + 1, mth, x1, x3, x5 => fX4_sawteeth_B12 (fX4_sawteeth_L12  mtp mbt n) mtp mbt mth x1 x3 x5
def fX4_sawteeth (mtp : Int32) (mbt : Int32) (mth : Int32) : Option (Int64 × Int32) :=
  fX4_sawteeth_L12  mtp mbt FU 0 0 0 1
set_option maxHeartbeats 4000000 in
set_option maxRecDepth 100000 in
theorem zX4_sawteeth (l : Launch) (G : va_G) (cI : ClassId) (sz : Nat) (h a5 a6 : Nat) (mth : Int32) (mtp : Int32) (mbt : Int32) (mmn : Int32) (mte : Nat → Int32) (mrs : Int32) (mru : Nat → Int32) (mlt : Int64) (mlb : Int64) (mht : Int64) (mhb : Int64) {rv : Int64} {o_mth : Int32} (hf : fX4_sawteeth mtp mbt mth = some (rv, o_mth)) : mMl l yX4_sawteeth wsX4_sawteeth ({ frames := 0, cells := 0, slots := 0, locals := 0 }) [.ref h] G cI [(h, .inr (4, [.int mth, .int mtp, .int mbt, .int mmn, .ref a5, .int mrs, .ref a6, .long mlt, .long mlb, .long mht, .long mhb])), (a5, .inl (cI, 64, .inl mte)), (a6, .inl (cI, 64, .inl mru))] sz rv [(h, .inr (4, [.int o_mth, .int mtp, .int mbt, .int mmn, .ref a5, .int mrs, .ref a6, .long mlt, .long mlb, .long mht, .long mhb])), (a5, .inl (cI, 64, .inl mte)), (a6, .inl (cI, 64, .inl mru))] 0 0 := by
  refine Met.ofW (cc := cX4_sawteeth) (maxL := 7) (ret := (some .long)) (by decide) rfl ?_
  intro p e s m args below meth c s₁ B hml hv
  obtain ⟨rfl, hsz, hP, hK, hD0⟩ := hv
  have hx := B.exec
  have hb := B.bytes
  have hr := B.returns
  have hts := atoms_spec (ws := wsX4_sawteeth) B.pre
  have hown : s.vm.findClass RX4 = some m.cls := findClass_of_methodNamed B.named
  have hlocks := B.notSynchronized
  subst hsz
  have hD := hD0.self (sz := s.heap.size)
  generalize hAe : va_A [(h, .inr (4, [.int mth, .int mtp, .int mbt, .int mmn, .ref a5, .int mrs, .ref a6, .long mlt, .long mlb, .long mht, .long mhb])), (a5, .inl (cI, 64, .inl mte)), (a6, .inl (cI, 64, .inl mru))] s.heap.size = A at hD ⊢
  have hA : ∀ q : Nat, s.heap.size ≤ q → A q := fun q h => by rw [← hAe]; exact Or.inr h
  have hS : va_S A s.heap s.heap [] := va_S.rf
  have w0 := hts (.fieldLink RX4 23 "SternDeskModel" "thrown" "I") (by decide +kernel)
  have hinX4 : ∀ w ∈ u_ws RX4 TX4 11, w ∈ wsX4_sawteeth := by decide +kernel
  have w2 := hts (.fieldLink RX4 13 "SternDeskModel" "bottom" "I") (by decide +kernel)
  have w3 := hts (.constantLong RX4 82 (3)) (by decide +kernel)
  have w4 := hts (.constantLong RX4 70 (2)) (by decide +kernel)
  have w5 := hts (.fieldLink RX4 7 "SternDeskModel" "top" "I") (by decide +kernel)
  obtain ⟨Qf, hQf⟩ : ∃ f : (Int64 × Int32) → State → Prop, f = fun z => MQ below (va_Ql (fun (r : Int64) (_ : Unit) => r = z.1) (fun _ t => va_P G vwCl [(h, .inr (4, [.int z.2, .int mtp, .int mbt, .int mmn, .ref a5, .int mrs, .ref a6, .long mlt, .long mlb, .long mht, .long mhb])), (a5, .inl (cI, 64, .inl mte)), (a6, .inl (cI, 64, .inl mru))] t.heap ∧ va_D A [(h, .inr (4, [.int z.2, .int mtp, .int mbt, .int mmn, .ref a5, .int mrs, .ref a6, .long mlt, .long mlb, .long mht, .long mhb])), (a5, .inl (cI, 64, .inl mte)), (a6, .inl (cI, 64, .inl mru))]) A) ([.ref h].toArray) s 0 0 A := ⟨_, rfl⟩
  suffices hgo : W p l e (headSpec wsX4_sawteeth ({ frames := 0, cells := 0, slots := 0, locals := 0 })).room s m ([.ref h].toArray) below meth c s.heap [] 0 0 (Qf (rv, o_mth)) (entryFrame m ([.ref h].toArray) 7) by rw [hQf] at hgo; exact hgo
  have B12 : ∀ (k12 : Int32 → Int64 → Int64 → Int64 → Option (Int64 × Int32)) (hk12 : ∀ (mth : Int32) (x1 : Int64) (x3 : Int64) (x5 : Int64) (H : Heap) (locs : List Loc) (ls : Array Slot), k12 mth x1 x3 x5 = some (rv, o_mth) → va_P G vwCl [(h, .inr (4, [.int mth, .int mtp, .int mbt, .int mmn, .ref a5, .int mrs, .ref a6, .long mlt, .long mlb, .long mht, .long mhb])), (a5, .inl (cI, 64, .inl mte)), (a6, .inl (cI, 64, .inl mru))] H → va_D A [(h, .inr (4, [.int mth, .int mtp, .int mbt, .int mmn, .ref a5, .int mrs, .ref a6, .long mlt, .long mlb, .long mht, .long mhb])), (a5, .inl (cI, 64, .inl mte)), (a6, .inl (cI, 64, .inl mru))] → va_S A s.heap H locs → lv_has ls 7 [(0, .ref h), (1, .long x1), (3, .long x3), (5, .long x5)] → W p l e (headSpec wsX4_sawteeth ({ frames := 0, cells := 0, slots := 0, locals := 0 })).room s m ([.ref h].toArray) below meth c H locs 0 0 (Qf (rv, o_mth)) (F0 m 12 ls [])) (mth : Int32) (x1 : Int64) (x3 : Int64) (x5 : Int64) (H : Heap) (locs : List Loc) (ls : Array Slot), fX4_sawteeth_B12 k12 mtp mbt mth x1 x3 x5 = some (rv, o_mth) → va_P G vwCl [(h, .inr (4, [.int mth, .int mtp, .int mbt, .int mmn, .ref a5, .int mrs, .ref a6, .long mlt, .long mlb, .long mht, .long mhb])), (a5, .inl (cI, 64, .inl mte)), (a6, .inl (cI, 64, .inl mru))] H → va_D A [(h, .inr (4, [.int mth, .int mtp, .int mbt, .int mmn, .ref a5, .int mrs, .ref a6, .long mlt, .long mlb, .long mht, .long mhb])), (a5, .inl (cI, 64, .inl mte)), (a6, .inl (cI, 64, .inl mru))] → va_S A s.heap H locs → lv_has ls 7 [(0, .ref h), (1, .long x1), (3, .long x3), (5, .long x5)] → W p l e (headSpec wsX4_sawteeth ({ frames := 0, cells := 0, slots := 0, locals := 0 })).room s m ([.ref h].toArray) below meth c H locs 0 0 (Qf (rv, o_mth)) (F0 m 12 ls []) := by
    intro k12 hk12  mth x1 x3 x5 H locs ls hf hP hD hS hl
    unfold fX4_sawteeth_B12 at hf
    refine lv_lload hx hb dX4_sawteeth_12 (lv_at hl 3 rfl) ?_
    refine lv_aload_n hx hb dX4_sawteeth_14 rfl (lv_at hl 0 rfl) ?_
    refine va_get (D := G) (ci := 4) (v := .int mbt) (C := RX4) (T := TX4) (N := 11) hx hb hts hinX4 hown hK.1 hP 0 rfl rfl 2 (by decide) w2 (fun _ h9 => h9) rfl dX4_sawteeth_15 ?_
    refine lv_i2l hx hb dX4_sawteeth_18 rfl ?_
    refine W.lcmp hx hb dX4_sawteeth_19 ?_
    refine lv_if_ge (tgt := 73) hx hb dX4_sawteeth_20 (by decide) (fun c20 => ?_) (fun c20 => ?_)
    · have hf := it_t c20 hf
      refine lv_ldc2 hx hb hown w3 dX4_sawteeth_73 ?_
      refine lv_lload_n hx hb dX4_sawteeth_76 rfl (lv_at hl 1 rfl) ?_
      refine lv_lmul hx hb dX4_sawteeth_77 ?_
      refine lv_ldc2 hx hb hown w4 dX4_sawteeth_78 ?_
      refine lv_aload_n hx hb dX4_sawteeth_81 rfl (lv_at hl 0 rfl) ?_
      refine va_get (D := G) (ci := 4) (v := .int mbt) (C := RX4) (T := TX4) (N := 11) hx hb hts hinX4 hown hK.1 hP 0 rfl rfl 2 (by decide) w2 (fun _ h9 => h9) rfl dX4_sawteeth_82 ?_
      refine lv_i2l hx hb dX4_sawteeth_85 rfl ?_
      refine lv_lmul hx hb dX4_sawteeth_86 ?_
      obtain ⟨hz87, hf⟩ := ckL_s hf
      refine lv_ldiv hx hb dX4_sawteeth_87 hz87 ?_
      refine qf_s (Qf := Qf) hf ?_
      have hP9 : va_P G vwCl [(h, .inr (4, [.int mth, .int mtp, .int mbt, .int mmn, .ref a5, .int mrs, .ref a6, .long mlt, .long mlb, .long mht, .long mhb])), (a5, .inl (cI, 64, .inl mte)), (a6, .inl (cI, 64, .inl mru))] _ := hP.sub [0, 1, 2] rfl
      have hD9 : va_D A [(h, .inr (4, [.int mth, .int mtp, .int mbt, .int mmn, .ref a5, .int mrs, .ref a6, .long mlt, .long mlb, .long mht, .long mhb])), (a5, .inl (cI, 64, .inl mte)), (a6, .inl (cI, 64, .inl mru))] := hD.sub [0, 1, 2] (by decide) rfl
      rw [hQf]
      exact W.lret hx hb hr (fun t ht hW => ⟨⟨_, (), rfl, rfl, by rw [ht]; exact hP9, hD9⟩, hS.F ht⟩) hS.2.2 dX4_sawteeth_88
    · have hf := it_f c20 hf
      refine lv_lload_n hx hb dX4_sawteeth_23 rfl (lv_at hl 2 rfl) ?_
      refine lv_aload_n hx hb dX4_sawteeth_24 rfl (lv_at hl 0 rfl) ?_
      refine va_get (D := G) (ci := 4) (v := .int mtp) (C := RX4) (T := TX4) (N := 11) hx hb hts hinX4 hown hK.1 hP 0 rfl rfl 1 (by decide) w5 (fun _ h9 => h9) rfl dX4_sawteeth_25 ?_
      refine lv_i2l hx hb dX4_sawteeth_28 rfl ?_
      refine lv_ladd hx hb dX4_sawteeth_29 ?_
      refine lv_aload_n hx hb dX4_sawteeth_30 rfl (lv_at hl 0 rfl) ?_
      refine va_get (D := G) (ci := 4) (v := .int mbt) (C := RX4) (T := TX4) (N := 11) hx hb hts hinX4 hown hK.1 hP 0 rfl rfl 2 (by decide) w2 (fun _ h9 => h9) rfl dX4_sawteeth_31 ?_
      refine lv_i2l hx hb dX4_sawteeth_34 rfl ?_
      obtain ⟨hz35, hf⟩ := ckL_s hf
      refine lv_lrem hx hb dX4_sawteeth_35 hz35 ?_
      refine lv_topl (fun v36 ev36 => ?_)
      have hf := nm_s ev36 hf
      refine lv_lstore_n (lv' := [(3, .long v36), (0, .ref h), (1, .long x1), (5, .long x5)]) hx hb dX4_sawteeth_36 rfl hl (by decide) rfl (fun ls hl => ?_)
      refine lv_lload_n hx hb dX4_sawteeth_37 rfl (lv_at hl 2 rfl) ?_
      refine lv_ldc2 hx hb hown w4 dX4_sawteeth_38 ?_
      refine lv_lload hx hb dX4_sawteeth_41 (lv_at hl 3 rfl) ?_
      refine lv_lmul hx hb dX4_sawteeth_43 ?_
      refine lv_aload_n hx hb dX4_sawteeth_44 rfl (lv_at hl 1 rfl) ?_
      refine va_get (D := G) (ci := 4) (v := .int mbt) (C := RX4) (T := TX4) (N := 11) hx hb hts hinX4 hown hK.1 hP 0 rfl rfl 2 (by decide) w2 (fun _ h9 => h9) rfl dX4_sawteeth_45 ?_
      refine lv_i2l hx hb dX4_sawteeth_48 rfl ?_
      refine lv_lsub hx hb dX4_sawteeth_49 ?_
      refine lv_ldc2 hx hb hown w4 dX4_sawteeth_50 ?_
      refine lv_lload_n hx hb dX4_sawteeth_53 rfl (lv_at hl 0 rfl) ?_
      refine lv_lmul hx hb dX4_sawteeth_54 ?_
      refine lv_aload_n hx hb dX4_sawteeth_55 rfl (lv_at hl 1 rfl) ?_
      refine va_get (D := G) (ci := 4) (v := .int mbt) (C := RX4) (T := TX4) (N := 11) hx hb hts hinX4 hown hK.1 hP 0 rfl rfl 2 (by decide) w2 (fun _ h9 => h9) rfl dX4_sawteeth_56 ?_
      refine lv_i2l hx hb dX4_sawteeth_59 rfl ?_
      refine lv_lsub hx hb dX4_sawteeth_60 ?_
      refine lv_lmul hx hb dX4_sawteeth_61 ?_
      refine lv_ladd hx hb dX4_sawteeth_62 ?_
      refine lv_topl (fun v63 ev63 => ?_)
      have hf := nm_s ev63 hf
      refine lv_lstore_n (lv' := [(1, .long v63), (3, .long v36), (0, .ref h), (5, .long x5)]) hx hb dX4_sawteeth_63 rfl hl (by decide) rfl (fun ls hl => ?_)
      refine lv_lload hx hb dX4_sawteeth_64 (lv_at hl 3 rfl) ?_
      refine lv_lconst (v := 1) hx hb dX4_sawteeth_66 (by decide) ?_
      refine lv_ladd hx hb dX4_sawteeth_67 ?_
      refine lv_topl (fun v68 ev68 => ?_)
      have hf := nm_s ev68 hf
      refine lv_lstore (lv' := [(5, .long v68), (1, .long v63), (3, .long v36), (0, .ref h)]) hx hb dX4_sawteeth_68 hl (by decide) rfl (fun ls hl => ?_)
      refine lv_goto (tgt := 12) hx hb dX4_sawteeth_70 (by decide) ?_
      exact hk12  mth v63 v36 v68 _ _ _ hf hP hD hS (lv_sub hl [3, 1, 2, 0] rfl)
  have L12 : ∀ (fu : Nat) (mth : Int32) (x1 : Int64) (x3 : Int64) (x5 : Int64) (H : Heap) (locs : List Loc) (ls : Array Slot), fX4_sawteeth_L12  mtp mbt fu mth x1 x3 x5 = some (rv, o_mth) → va_P G vwCl [(h, .inr (4, [.int mth, .int mtp, .int mbt, .int mmn, .ref a5, .int mrs, .ref a6, .long mlt, .long mlb, .long mht, .long mhb])), (a5, .inl (cI, 64, .inl mte)), (a6, .inl (cI, 64, .inl mru))] H → va_D A [(h, .inr (4, [.int mth, .int mtp, .int mbt, .int mmn, .ref a5, .int mrs, .ref a6, .long mlt, .long mlb, .long mht, .long mhb])), (a5, .inl (cI, 64, .inl mte)), (a6, .inl (cI, 64, .inl mru))] → va_S A s.heap H locs → lv_has ls 7 [(0, .ref h), (1, .long x1), (3, .long x3), (5, .long x5)] → W p l e (headSpec wsX4_sawteeth ({ frames := 0, cells := 0, slots := 0, locals := 0 })).room s m ([.ref h].toArray) below meth c H locs 0 0 (Qf (rv, o_mth)) (F0 m 12 ls []) := by
    intro  fu
    induction fu with
    | zero => intro  mth x1 x3 x5 H locs ls hf; cases hf
    | succ fu ih => intro  mth x1 x3 x5 H locs ls hf hP hD hS hl; exact B12 (fX4_sawteeth_L12  mtp mbt fu) ih  mth x1 x3 x5 _ _ _ hf hP hD hS hl
  have hl := lv_entry ([.ref h]) (n := 7) (Nat.le_of_ble_eq_true rfl)
  rw [lg_entry_eq]
  generalize (lg_sl ([.ref h]) ++ List.replicate (7 - (lg_sl ([.ref h])).length) Slot.unset).toArray = ls at hl ⊢
  have hl : lv_has ls 7 [(0, .ref h)] := hl
  unfold fX4_sawteeth at hf
  refine lv_aload_n hx hb dX4_sawteeth_0 rfl (lv_at hl 0 rfl) ?_
  refine lv_iconst (v := 0) hx hb dX4_sawteeth_1 (by decide) ?_
  refine va_put (D := G) (ci := 4) (v := .int 0) (ty := .int) (C := RX4) (T := TX4) (N := 11) hx hb hts hinX4 tyX4 tyX4_ok nmX4 hown hK.1 hP hD hS 0 rfl rfl 0 (by decide) w0 (fun _ h9 => h9) rfl (by decide +kernel) rfl rfl (Nat.le_of_ble_eq_true rfl) dX4_sawteeth_2 (fun H locs hP hD hS => ?_)
  have hP : va_P G vwCl [(h, .inr (4, [.int 0, .int mtp, .int mbt, .int mmn, .ref a5, .int mrs, .ref a6, .long mlt, .long mlb, .long mht, .long mhb])), (a5, .inl (cI, 64, .inl mte)), (a6, .inl (cI, 64, .inl mru))] H := hP
  have hD : va_D A [(h, .inr (4, [.int 0, .int mtp, .int mbt, .int mmn, .ref a5, .int mrs, .ref a6, .long mlt, .long mlb, .long mht, .long mhb])), (a5, .inl (cI, 64, .inl mte)), (a6, .inl (cI, 64, .inl mru))] := hD
  refine lv_lconst (v := 0) hx hb dX4_sawteeth_5 (by decide) ?_
  refine lv_lstore_n (lv' := [(1, .long 0), (0, .ref h)]) hx hb dX4_sawteeth_6 rfl hl (by decide) rfl (fun ls hl => ?_)
  refine lv_lconst (v := 0) hx hb dX4_sawteeth_7 (by decide) ?_
  refine lv_lstore_n (lv' := [(3, .long 0), (1, .long 0), (0, .ref h)]) hx hb dX4_sawteeth_8 rfl hl (by decide) rfl (fun ls hl => ?_)
  refine lv_lconst (v := 1) hx hb dX4_sawteeth_9 (by decide) ?_
  refine lv_lstore (lv' := [(5, .long 1), (3, .long 0), (1, .long 0), (0, .ref h)]) hx hb dX4_sawteeth_10 hl (by decide) rfl (fun ls hl => ?_)
  exact L12  FU  0 0 0 1 _ _ _ hf hP hD hS (lv_sub hl [3, 2, 1, 0] rfl)
def fX4_check (mth : Int32) : Option (Int32 × Int32) :=
  some (1, 0)
set_option maxHeartbeats 4000000 in
set_option maxRecDepth 100000 in
theorem zX4_check (l : Launch) (G : va_G) (cI : ClassId) (sz : Nat) (h a5 a6 : Nat) (mth : Int32) (mtp : Int32) (mbt : Int32) (mmn : Int32) (mte : Nat → Int32) (mrs : Int32) (mru : Nat → Int32) (mlt : Int64) (mlb : Int64) (mht : Int64) (mhb : Int64) {rv : Int32} {o_mth : Int32} (hf : fX4_check mth = some (rv, o_mth)) : mMi l yX4_check wsX4_check ({ frames := 0, cells := 0, slots := 0, locals := 0 }) [.ref h] G cI [(h, .inr (4, [.int mth, .int mtp, .int mbt, .int mmn, .ref a5, .int mrs, .ref a6, .long mlt, .long mlb, .long mht, .long mhb])), (a5, .inl (cI, 64, .inl mte)), (a6, .inl (cI, 64, .inl mru))] sz rv [(h, .inr (4, [.int o_mth, .int mtp, .int mbt, .int mmn, .ref a5, .int mrs, .ref a6, .long mlt, .long mlb, .long mht, .long mhb])), (a5, .inl (cI, 64, .inl mte)), (a6, .inl (cI, 64, .inl mru))] 0 0 := by
  refine Met.ofW (cc := cX4_check) (maxL := 1) (ret := (some .int)) (by decide) rfl ?_
  intro p e s m args below meth c s₁ B hml hv
  obtain ⟨rfl, hsz, hP, hK, hD0⟩ := hv
  have hx := B.exec
  have hb := B.bytes
  have hr := B.returns
  have hts := atoms_spec (ws := wsX4_check) B.pre
  have hown : s.vm.findClass RX4 = some m.cls := findClass_of_methodNamed B.named
  have hlocks := B.notSynchronized
  subst hsz
  have hD := hD0.self (sz := s.heap.size)
  generalize hAe : va_A [(h, .inr (4, [.int mth, .int mtp, .int mbt, .int mmn, .ref a5, .int mrs, .ref a6, .long mlt, .long mlb, .long mht, .long mhb])), (a5, .inl (cI, 64, .inl mte)), (a6, .inl (cI, 64, .inl mru))] s.heap.size = A at hD ⊢
  have hA : ∀ q : Nat, s.heap.size ≤ q → A q := fun q h => by rw [← hAe]; exact Or.inr h
  have hS : va_S A s.heap s.heap [] := va_S.rf
  have w0 := hts (.fieldLink RX4 23 "SternDeskModel" "thrown" "I") (by decide +kernel)
  have hinX4 : ∀ w ∈ u_ws RX4 TX4 11, w ∈ wsX4_check := by decide +kernel
  obtain ⟨Qf, hQf⟩ : ∃ f : (Int32 × Int32) → State → Prop, f = fun z => MQ below (va_Qi (fun (r : Int32) (_ : Unit) => r = z.1) (fun _ t => va_P G vwCl [(h, .inr (4, [.int z.2, .int mtp, .int mbt, .int mmn, .ref a5, .int mrs, .ref a6, .long mlt, .long mlb, .long mht, .long mhb])), (a5, .inl (cI, 64, .inl mte)), (a6, .inl (cI, 64, .inl mru))] t.heap ∧ va_D A [(h, .inr (4, [.int z.2, .int mtp, .int mbt, .int mmn, .ref a5, .int mrs, .ref a6, .long mlt, .long mlb, .long mht, .long mhb])), (a5, .inl (cI, 64, .inl mte)), (a6, .inl (cI, 64, .inl mru))]) A) ([.ref h].toArray) s 0 0 A := ⟨_, rfl⟩
  suffices hgo : W p l e (headSpec wsX4_check ({ frames := 0, cells := 0, slots := 0, locals := 0 })).room s m ([.ref h].toArray) below meth c s.heap [] 0 0 (Qf (rv, o_mth)) (entryFrame m ([.ref h].toArray) 1) by rw [hQf] at hgo; exact hgo
  have hl := lv_entry ([.ref h]) (n := 1) (Nat.le_of_ble_eq_true rfl)
  rw [lg_entry_eq]
  generalize (lg_sl ([.ref h]) ++ List.replicate (1 - (lg_sl ([.ref h])).length) Slot.unset).toArray = ls at hl ⊢
  have hl : lv_has ls 1 [(0, .ref h)] := hl
  unfold fX4_check at hf
  refine lv_aload_n hx hb dX4_check_0 rfl (lv_at hl 0 rfl) ?_
  refine lv_iconst (v := 0) hx hb dX4_check_1 (by decide) ?_
  refine va_put (D := G) (ci := 4) (v := .int 0) (ty := .int) (C := RX4) (T := TX4) (N := 11) hx hb hts hinX4 tyX4 tyX4_ok nmX4 hown hK.1 hP hD hS 0 rfl rfl 0 (by decide) w0 (fun _ h9 => h9) rfl (by decide +kernel) rfl rfl (Nat.le_of_ble_eq_true rfl) dX4_check_2 (fun H locs hP hD hS => ?_)
  have hP : va_P G vwCl [(h, .inr (4, [.int 0, .int mtp, .int mbt, .int mmn, .ref a5, .int mrs, .ref a6, .long mlt, .long mlb, .long mht, .long mhb])), (a5, .inl (cI, 64, .inl mte)), (a6, .inl (cI, 64, .inl mru))] H := hP
  have hD : va_D A [(h, .inr (4, [.int 0, .int mtp, .int mbt, .int mmn, .ref a5, .int mrs, .ref a6, .long mlt, .long mlb, .long mht, .long mhb])), (a5, .inl (cI, 64, .inl mte)), (a6, .inl (cI, 64, .inl mru))] := hD
  refine lv_iconst (v := 1) hx hb dX4_check_5 (by decide) ?_
  refine qf_s (Qf := Qf) hf ?_
  have hP9 : va_P G vwCl [(h, .inr (4, [.int 0, .int mtp, .int mbt, .int mmn, .ref a5, .int mrs, .ref a6, .long mlt, .long mlb, .long mht, .long mhb])), (a5, .inl (cI, 64, .inl mte)), (a6, .inl (cI, 64, .inl mru))] _ := hP.sub [0, 1, 2] rfl
  have hD9 : va_D A [(h, .inr (4, [.int 0, .int mtp, .int mbt, .int mmn, .ref a5, .int mrs, .ref a6, .long mlt, .long mlb, .long mht, .long mhb])), (a5, .inl (cI, 64, .inl mte)), (a6, .inl (cI, 64, .inl mru))] := hD.sub [0, 1, 2] (by decide) rfl
  rw [hQf]
  exact W.iret hx hb hr (fun t ht hW => ⟨⟨_, (), rfl, rfl, by rw [ht]; exact hP9, hD9⟩, hS.F ht⟩) hS.2.2 dX4_check_6

theorem i5 : (5 : Int32) = iI 5 := by decide
theorem vpk {I k L : Nat} {K : Int32} (hK : K = nI k) (h : I + k < L) (hL : L ≤ 2560) : vp_in (nI I + K) L := by
  rw [hK, nI_add]
  exact vp_in_nI h (by omega)
theorem gt_no {I L : Nat} (hI : I ≤ 2560) (hL : L ≤ 2560) (h : ¬ Int32.ofNat L - 5 < nI I) : I + 5 ≤ L := by
  have h2 : ¬ nI L - 5 < nI I := h
  rw [nI_iI, nI_iI, i5, iI_sub, ic_lt ⟨by omega, by omega⟩ ⟨by omega, by omega⟩] at h2
  omega
set_option maxHeartbeats 4000000 in
set_option maxRecDepth 100000 in
theorem law_head {p : Program} {l : Launch} {e : Env} {s : State} {m : MethodId} {below : List Frame} {meth : Method} {c : Code} {Q : State → Prop} {A : Nat → Prop} {G : va_G} {cI cJ : ClassId} {b h e0 a1 a2 a3 r0 a4 g4 a5 a6 ao L : Nat} {xs : Nat → Int32} {mo : Nat → Int32} {I : Nat} (C : LC l p s m c b L xs A G cI cJ) (hAs : ∀ q, A q → s.heap.size ≤ q) (hL : L ≤ 2560) (hI : I ≤ 2560) (hR : ROk mo) (kE : ∀ (H : Heap) (ls : Array Slot), W p l e room_1 s m #[Value.ref b] below meth c H [] 601024 7293034 Q (F0 m 687 ls [.int 1])) (hn : I + 5 ≤ L → LK p l e s m below meth c Q A G cI cJ b h e0 a1 a2 a3 r0 a4 g4 a5 a6 ao mo (nI (I + 5)) 23 (20 + 2 * (I + 5)) (500 + 6 * (I + 5))) : LK p l e s m below meth c Q A G cI cJ b h e0 a1 a2 a3 r0 a4 g4 a5 a6 ao mo (nI I) 23 (20 + 2 * I) (500 + 6 * I) := by
  intro P Q0 qs ts bs cn mth mmn mte mrs mru mlt mlb mht mhb ol H locs ls hSO hP hD hS hl
  obtain ⟨hx, hb, hml, hown, hts, hX, hbl, hbA, hA, hK2, hl0, hT1, hT2, hT3, hZ⟩ := id C
  refine lv_iload hx hb dL_law_23 (lv_at hl 4 rfl) ?_
  refine lv_aload_n hx hb dL_law_25 rfl (lv_at hl 0 rfl) ?_
  refine va_slen hx hb hX hbl hbA hS dL_law_26 ?_
  refine lv_iconst (v := 5) hx hb dL_law_27 (by decide) ?_
  refine lv_isub hx hb dL_law_28 ?_
  refine lv_icmp_gt (tgt := 686) hx hb dL_law_29 (by decide) (fun c29 => ?_) (fun c29 => ?_)
  · refine va_forget (fun q hq => hAs _ (hS.2.2 q hq)) ?_
    refine W.widen (k := 601024) (n := 7293034) (by omega) (by omega) ?_
    refine lv_iconst (v := 1) hx hb dL_law_686 (by decide) ?_
    exact kE _ _
  have h5 : I + 5 ≤ L := gt_no hI hL c29
  have hN := hn h5
  have hk : LK p l e s m below meth c Q A G cI cJ b h e0 a1 a2 a3 r0 a4 g4 a5 a6 ao mo (nI I) 680 (20 + 2 * I + 2) (500 + 6 * I + 6) := by
    intro P Q0 qs ts bs cn mth mmn mte mrs mru mlt mlb mht mhb ol H locs ls hSO hP hD hS hl
    obtain ⟨i9, e9⟩ : ∃ y : Int32, y = nI I + 5 := ⟨_, rfl⟩
    refine lv_iinc (v := i9) (lv' := [(4, .int i9), (0, .ref b), (1, .ref h), (2, .ref g4), (3, .ref ao)]) hx hb dL_law_680 hl (k := 4) rfl (by rw [e9]; rfl) (by decide) rfl (fun ls hl => ?_)
    refine lv_goto (tgt := 23) hx hb dL_law_683 (by decide) ?_
    refine W.widen (k := 20 + 2 * (I + 5)) (n := 500 + 6 * (I + 5)) (by omega) (by omega) ?_
    have e8 : i9 = nI (I + 5) := by rw [e9, show (5 : Int32) = nI 5 from by decide, nI_add]
    rw [e8] at hl
    exact hN P Q0 qs ts bs cn mth mmn mte mrs mru mlt mlb mht mhb ol _ _ _ hSO hP hD hS (lv_sub hl [1, 2, 3, 4, 0] rfl)
  have hV : LV L xs (nI I) (xs (Int32.toNatClampNeg (nI I + 1))) (xs (Int32.toNatClampNeg (nI I + 2))) (xs (Int32.toNatClampNeg (nI I + 3))) (xs (Int32.toNatClampNeg (nI I + 4))) :=
    ⟨⟨vpk (k := 1) (by decide) (by omega) hL, rfl⟩, ⟨vpk (k := 2) (by decide) (by omega) hL, rfl⟩, ⟨vpk (k := 3) (by decide) (by omega) hL, rfl⟩, ⟨vpk (k := 4) (by decide) (by omega) hL, rfl⟩⟩
  have hc : 20 + 2 * I + 2 ≤ 601024 := by omega
  have hs : 500 + 6 * I + 6 ≤ 7293034 := by omega
  refine lv_aload_n hx hb dL_law_32 rfl (lv_at hl 0 rfl) ?_
  refine lv_iload hx hb dL_law_33 (lv_at hl 4 rfl) ?_
  refine va_sld hx hb hX hbl hbA hS (vp_in_nI (by omega) (by omega)) dL_law_35 ?_
  refine lv_bipush (v := 31) hx hb dL_law_36 (by decide) ?_
  refine lv_iand hx hb dL_law_38 ?_
  refine lv_topi (fun z ez => ?_)
  by_cases z1 : z.toInt < 0
  · refine lv_tableOut (tgt := 680) hx hb dL_law_39 (Or.inl z1) (by decide) ?_
    refine W.widen (k := 20 + 2 * I + 2) (n := 500 + 6 * I + 6) (by omega) (by omega) ?_
    exact hk P Q0 qs ts bs cn mth mmn mte mrs mru mlt mlb mht mhb ol _ _ _ hSO hP hD hS hl
  by_cases z2 : 16 < z.toInt
  · refine lv_tableOut (tgt := 680) hx hb dL_law_39 (Or.inr z2) (by decide) ?_
    refine W.widen (k := 20 + 2 * I + 2) (n := 500 + 6 * I + 6) (by omega) (by omega) ?_
    exact hk P Q0 qs ts bs cn mth mmn mte mrs mru mlt mlb mht mhb ol _ _ _ hSO hP hD hS hl
  rcases (show z.toInt = 0 ∨ z.toInt = 1 ∨ z.toInt = 2 ∨ z.toInt = 3 ∨ z.toInt = 4 ∨ z.toInt = 5 ∨ z.toInt = 6 ∨ z.toInt = 7 ∨ z.toInt = 8 ∨ z.toInt = 9 ∨ z.toInt = 10 ∨ z.toInt = 11 ∨ z.toInt = 12 ∨ z.toInt = 13 ∨ z.toInt = 14 ∨ z.toInt = 15 ∨ z.toInt = 16 by omega) with h9 | h9 | h9 | h9 | h9 | h9 | h9 | h9 | h9 | h9 | h9 | h9 | h9 | h9 | h9 | h9 | h9
  · refine lv_tableIn (off := 81) (tgt := 120) hx hb dL_law_39 z1 z2 (by rw [h9]; rfl) (by decide) ?_
    exact law_0 C hV hR hc hs hk P Q0 qs ts bs cn mth mmn mte mrs mru mlt mlb mht mhb ol _ _ _ hSO hP hD hS hl
  · refine lv_tableIn (off := 129) (tgt := 168) hx hb dL_law_39 z1 z2 (by rw [h9]; rfl) (by decide) ?_
    exact law_1 C hV hR hc hs hk P Q0 qs ts bs cn mth mmn mte mrs mru mlt mlb mht mhb ol _ _ _ hSO hP hD hS hl
  · refine lv_tableIn (off := 154) (tgt := 193) hx hb dL_law_39 z1 z2 (by rw [h9]; rfl) (by decide) ?_
    exact law_2 C hV hR hc hs hk P Q0 qs ts bs cn mth mmn mte mrs mru mlt mlb mht mhb ol _ _ _ hSO hP hD hS hl
  · refine lv_tableIn (off := 167) (tgt := 206) hx hb dL_law_39 z1 z2 (by rw [h9]; rfl) (by decide) ?_
    exact law_3 C hV hR hc hs hk P Q0 qs ts bs cn mth mmn mte mrs mru mlt mlb mht mhb ol _ _ _ hSO hP hD hS hl
  · refine lv_tableIn (off := 192) (tgt := 231) hx hb dL_law_39 z1 z2 (by rw [h9]; rfl) (by decide) ?_
    exact law_4 C hV hR hc hs hk P Q0 qs ts bs cn mth mmn mte mrs mru mlt mlb mht mhb ol _ _ _ hSO hP hD hS hl
  · refine lv_tableIn (off := 229) (tgt := 268) hx hb dL_law_39 z1 z2 (by rw [h9]; rfl) (by decide) ?_
    exact law_5 C hV hR hc hs hk P Q0 qs ts bs cn mth mmn mte mrs mru mlt mlb mht mhb ol _ _ _ hSO hP hD hS hl
  · refine lv_tableIn (off := 254) (tgt := 293) hx hb dL_law_39 z1 z2 (by rw [h9]; rfl) (by decide) ?_
    exact law_6 C hV hR hc hs hk P Q0 qs ts bs cn mth mmn mte mrs mru mlt mlb mht mhb ol _ _ _ hSO hP hD hS hl
  · refine lv_tableIn (off := 279) (tgt := 318) hx hb dL_law_39 z1 z2 (by rw [h9]; rfl) (by decide) ?_
    exact law_7 C hV hR hc hs hk P Q0 qs ts bs cn mth mmn mte mrs mru mlt mlb mht mhb ol _ _ _ hSO hP hD hS hl
  · refine lv_tableIn (off := 316) (tgt := 355) hx hb dL_law_39 z1 z2 (by rw [h9]; rfl) (by decide) ?_
    exact law_8 C hV hR hc hs hk P Q0 qs ts bs cn mth mmn mte mrs mru mlt mlb mht mhb ol _ _ _ hSO hP hD hS hl
  · refine lv_tableIn (off := 329) (tgt := 368) hx hb dL_law_39 z1 z2 (by rw [h9]; rfl) (by decide) ?_
    exact law_9 C hV hR hc hs hk P Q0 qs ts bs cn mth mmn mte mrs mru mlt mlb mht mhb ol _ _ _ hSO hP hD hS hl
  · refine lv_tableIn (off := 409) (tgt := 448) hx hb dL_law_39 z1 z2 (by rw [h9]; rfl) (by decide) ?_
    exact law_10 C hV hR hc hs hk P Q0 qs ts bs cn mth mmn mte mrs mru mlt mlb mht mhb ol _ _ _ hSO hP hD hS hl
  · refine lv_tableIn (off := 501) (tgt := 540) hx hb dL_law_39 z1 z2 (by rw [h9]; rfl) (by decide) ?_
    exact law_11 C hV hR hc hs hk P Q0 qs ts bs cn mth mmn mte mrs mru mlt mlb mht mhb ol _ _ _ hSO hP hD hS hl
  · refine lv_tableIn (off := 526) (tgt := 565) hx hb dL_law_39 z1 z2 (by rw [h9]; rfl) (by decide) ?_
    exact law_12 C hV hR hc hs hk P Q0 qs ts bs cn mth mmn mte mrs mru mlt mlb mht mhb ol _ _ _ hSO hP hD hS hl
  · refine lv_tableIn (off := 563) (tgt := 602) hx hb dL_law_39 z1 z2 (by rw [h9]; rfl) (by decide) ?_
    exact law_13 C hV hR hc hs hk P Q0 qs ts bs cn mth mmn mte mrs mru mlt mlb mht mhb ol _ _ _ hSO hP hD hS hl
  · refine lv_tableIn (off := 588) (tgt := 627) hx hb dL_law_39 z1 z2 (by rw [h9]; rfl) (by decide) ?_
    exact law_14 C hV hR hc hs hk P Q0 qs ts bs cn mth mmn mte mrs mru mlt mlb mht mhb ol _ _ _ hSO hP hD hS hl
  · refine lv_tableIn (off := 614) (tgt := 653) hx hb dL_law_39 z1 z2 (by rw [h9]; rfl) (by decide) ?_
    exact law_15 C hV hR hc hs hk P Q0 qs ts bs cn mth mmn mte mrs mru mlt mlb mht mhb ol _ _ _ hSO hP hD hS hl
  · refine lv_tableIn (off := 628) (tgt := 667) hx hb dL_law_39 z1 z2 (by rw [h9]; rfl) (by decide) ?_
    exact law_16 C hV hR hc hs hk P Q0 qs ts bs cn mth mmn mte mrs mru mlt mlb mht mhb ol _ _ _ hSO hP hD hS hl
theorem law_loop {p : Program} {l : Launch} {e : Env} {s : State} {m : MethodId} {below : List Frame} {meth : Method} {c : Code} {Q : State → Prop} {A : Nat → Prop} {G : va_G} {cI cJ : ClassId} {b h e0 a1 a2 a3 r0 a4 g4 a5 a6 ao L : Nat} {xs : Nat → Int32} {mo : Nat → Int32} (C : LC l p s m c b L xs A G cI cJ) (hAs : ∀ q, A q → s.heap.size ≤ q) (hL : L ≤ 2560) (hR : ROk mo) (kE : ∀ (H : Heap) (ls : Array Slot), W p l e room_1 s m #[Value.ref b] below meth c H [] 601024 7293034 Q (F0 m 687 ls [.int 1])) : ∀ (d I : Nat), L ≤ I + d → I ≤ 2560 → LK p l e s m below meth c Q A G cI cJ b h e0 a1 a2 a3 r0 a4 g4 a5 a6 ao mo (nI I) 23 (20 + 2 * I) (500 + 6 * I)
  | 0, I, h1, h2 => law_head C hAs hL h2 hR kE (fun h3 => absurd h3 (by omega))
  | d + 1, I, h1, h2 => law_head C hAs hL h2 hR kE (fun h3 => law_loop C hAs hL hR kE d (I + 5) (by omega) (by omega))

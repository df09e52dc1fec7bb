set_option maxHeartbeats 4000000 in
set_option maxRecDepth 100000 in
theorem law_0 {p : Program} {l : Launch} {e : Env} {s : State} {m : MethodId} {below : List Frame} {meth : Method} {c : Code} {Q : State → Prop} {A : Nat → Prop} {G : va_G} {cI cJ : ClassId} {b h e0 a1 a2 a3 r0 a4 g4 a5 a6 ao L cells slots : Nat} {xs : Nat → Int32} {mo : Nat → Int32} {i v1 v2 v3 v4 : Int32} (C : LC l p s m c b L xs A G cI cJ) (hV : LV L xs i v1 v2 v3 v4) (hR : ROk mo) (hc : cells + 2 ≤ 601024) (hs : slots + 6 ≤ 7293034) (hk : LK p l e s m below meth c Q A G cI cJ b h e0 a1 a2 a3 r0 a4 g4 a5 a6 ao mo i 680 (cells + 2) (slots + 6)) : LK p l e s m below meth c Q A G cI cJ b h e0 a1 a2 a3 r0 a4 g4 a5 a6 ao mo i 120 cells slots := by
  intro P Q0 qs ts bs cn mth mmn mte mrs mru mlt mlb mht mhb ol H locs ls hSO hP hD hS hl
  obtain ⟨hx, hb, hml, hown, hts, hX, hbl, hbA, hA, hK2, hl0, hT1, hT2, hT3, hZ⟩ := C
  obtain ⟨⟨hi1, ev1⟩, ⟨hi2, ev2⟩, ⟨hi3, ev3⟩, ⟨hi4, ev4⟩⟩ := hV
  have hK := hK2.K
  rcases op_take (P := P) (Q := Q0) (qs := qs) (ts := ts) (bs := bs) (cn := cn) mth v1 v2 with ⟨P', Q', qs', ts', bs', cn', h3, hSO', h4⟩ | ⟨h3, h4⟩
  · refine lv_aload_n hx hb dL_law_120 rfl (lv_at hl 1 rfl) ?_
    refine lv_aload_n hx hb dL_law_121 rfl (lv_at hl 0 rfl) ?_
    refine lv_iload hx hb dL_law_122 (lv_at hl 4 rfl) ?_
    refine lv_iconst (v := 1) hx hb dL_law_124 (by decide) ?_
    refine lv_iadd hx hb dL_law_125 ?_
    refine va_sld hx hb hX hbl hbA hS hi1 dL_law_126 ?_
    rw [ev1]
    refine lv_aload_n hx hb dL_law_127 rfl (lv_at hl 0 rfl) ?_
    refine lv_iload hx hb dL_law_128 (lv_at hl 4 rfl) ?_
    refine lv_iconst (v := 2) hx hb dL_law_130 (by decide) ?_
    refine lv_iadd hx hb dL_law_131 ?_
    refine va_sld hx hb hX hbl hbA hS hi2 dL_law_132 ?_
    rw [ev2]
    refine mcWi (As := [.ref h, .int v1, .int v2]) (rest := []) (wr := [(g4, .inr (4, [.int mth, .int (nI P), .int (nI Q0), .int mmn, .ref a5, .int mrs, .ref a6, .long mlt, .long mlb, .long mht, .long mhb])), (a5, .inl (cI, 64, .inl mte)), (a6, .inl (cI, 64, .inl mru)), (ao, .inl (cJ, 1, .inr (.inl ol)))]) (wc := [(h, .inr (3, [.ref e0, .ref r0])), (e0, .inr (0, [.ref a1, .ref a2, .ref a3, .int cn])), (a1, .inl (cI, 32, .inl qs)), (a2, .inl (cI, 33, .inl ts)), (a3, .inl (cI, 33, .inl bs)), (r0, .inr (2, [.ref a4])), (a4, .inl (cI, 201, .inl mo))]) ⟨hx, hb, hml, hown, hts⟩ (zL_take l G cI _ h e0 a1 a2 a3 r0 a4 qs ts bs cn mo v1 v2 h3) (vx_cwSW 3 hts gL_law_L_take rfl rfl rfl (by decide +kernel) ⟨Nat.le_of_ble_eq_true rfl, Nat.le_of_ble_eq_true rfl⟩) hK hP hD [0, 1, 2, 3, 4, 5, 6] [7, 8, 9, 10] rfl rfl rfl (by decide) (by decide) (by decide) rfl hl.1 rfl (Nat.le_of_ble_eq_true rfl) dL_law_133 ⟨Nat.le_trans (Nat.add_le_add_left (show 0 ≤ 2 by decide) _) hc, Nat.le_trans (Nat.add_le_add_left (show 0 ≤ 6 by decide) _) hs⟩ hS hA (fun H locs hP hD hz1 hS => ?_)
    have hP : va_P G vwCl (LW cI cJ h e0 a1 a2 a3 r0 a4 g4 a5 a6 ao mo qs' ts' bs' cn' mth (nI P) (nI Q0) mmn mte mrs mru mlt mlb mht mhb ol) H := hP.sub [4, 5, 6, 7, 8, 9, 10, 0, 1, 2, 3] rfl
    have hD : va_D A (LW cI cJ h e0 a1 a2 a3 r0 a4 g4 a5 a6 ao mo qs' ts' bs' cn' mth (nI P) (nI Q0) mmn mte mrs mru mlt mlb mht mhb ol) := hD.sub [4, 5, 6, 7, 8, 9, 10, 0, 1, 2, 3] (by decide) rfl
    refine W.widen (k := cells + 2) (n := slots + 6) (by omega) (by omega) ?_
    refine lv_istore (lv' := [(5, .int 0), (0, .ref b), (1, .ref h), (2, .ref g4), (3, .ref ao), (4, .int i)]) hx hb dL_law_136 hl (by decide) rfl (fun ls hl => ?_)
    refine lv_aload_n hx hb dL_law_138 rfl (lv_at hl 3 rfl) ?_
    refine lv_aload_n hx hb dL_law_139 rfl (lv_at hl 1 rfl) ?_
    refine lv_iload hx hb dL_law_140 (lv_at hl 5 rfl) ?_
    refine lv_iconst (v := 1) hx hb dL_law_142 (by decide) ?_
    refine lv_iadd hx hb dL_law_143 ?_
    refine va_sld hx hb hX hbl hbA hS hi1 dL_law_144 ?_
    rw [ev1]
    refine lv_aload_n hx hb dL_law_145 rfl (lv_at hl 1 rfl) ?_
    refine lv_iload hx hb dL_law_146 (lv_at hl 5 rfl) ?_
    refine lv_iconst (v := 2) hx hb dL_law_148 (by decide) ?_
    refine lv_iadd hx hb dL_law_149 ?_
    refine va_sld hx hb hX hbl hbA hS hi2 dL_law_150 ?_
    rw [ev2]
    refine mcVv (As := [.int v1, .int v2]) (rest := []) (wr := [(h, .inr (3, [.ref e0, .ref r0])), (e0, .inr (0, [.ref a1, .ref a2, .ref a3, .int cn'])), (a1, .inl (cI, 32, .inl qs')), (a2, .inl (cI, 33, .inl ts')), (a3, .inl (cI, 33, .inl bs')), (r0, .inr (2, [.ref a4])), (a4, .inl (cI, 201, .inl mo)), (ao, .inl (cJ, 1, .inr (.inl ol)))]) (wc := [(g4, .inr (4, [.int mth, .int (nI P), .int (nI Q0), .int mmn, .ref a5, .int mrs, .ref a6, .long mlt, .long mlb, .long mht, .long mhb])), (a5, .inl (cI, 64, .inl mte)), (a6, .inl (cI, 64, .inl mru))]) ⟨hx, hb, hml, hown, hts⟩ (zX4_take l G cI _ g4 a5 a6 mth (nI P) (nI Q0) mmn mte mrs mru mlt mlb mht mhb v1 v2 h4) (cwV 2 hts gL_law_X4_take rfl rfl rfl (by decide +kernel) ⟨Nat.le_of_ble_eq_true rfl, Nat.le_of_ble_eq_true rfl⟩) hK hP hD [7, 8, 9] [0, 1, 2, 3, 4, 5, 6, 10] rfl rfl rfl (by decide) (by decide) (by decide) rfl rfl rfl hl.1 rfl (Nat.le_of_ble_eq_true rfl) dL_law_151 ⟨hc, hs⟩ hS hA (fun H locs hP hD hz151 hS => ?_)
    have hP : va_P G vwCl (LW cI cJ h e0 a1 a2 a3 r0 a4 g4 a5 a6 ao mo qs' ts' bs' cn' 0 (nI P') (nI Q') mmn mte mrs mru mlt mlb mht mhb ol) H := hP.sub [0, 1, 2, 3, 4, 5, 6, 8, 9, 10, 7] rfl
    have hD : va_D A (LW cI cJ h e0 a1 a2 a3 r0 a4 g4 a5 a6 ao mo qs' ts' bs' cn' 0 (nI P') (nI Q') mmn mte mrs mru mlt mlb mht mhb ol) := hD.sub [0, 1, 2, 3, 4, 5, 6, 8, 9, 10, 7] (by decide) rfl
    refine lv_aload_n hx hb dL_law_154 rfl (lv_at hl 3 rfl) ?_
    refine roVi (As := []) (rest := []) ⟨hx, hb, hml, hown, hts⟩ (zX4_thrown l G cI _ g4 a5 a6 0 (nI P') (nI Q') mmn mte mrs mru mlt mlb mht mhb  rfl) (cwV 0 hts gL_law_X4_thrown rfl rfl rfl (by decide +kernel) ⟨Nat.le_of_ble_eq_true rfl, Nat.le_of_ble_eq_true rfl⟩) hK hP (hP.sub [7, 8, 9] rfl) rfl rfl rfl hl.1 rfl (Nat.le_of_ble_eq_true rfl) dL_law_155 ⟨hc, hs⟩ hS hA (fun H locs hP hz155 hS => ?_)
    refine lv_iload hx hb dL_law_158 (lv_at hl 0 rfl) ?_
    refine lv_icmp_eq (tgt := 165) hx hb dL_law_160 (by decide) (fun c9 => ?_) (fun c9 => absurd rfl c9)
    refine lv_goto (tgt := 680) hx hb dL_law_165 (by decide) ?_
    exact hk P' Q' qs' ts' bs' cn' 0 mmn mte mrs mru mlt mlb mht mhb ol _ _ _ hSO' hP hD hS (lv_sub hl [1, 2, 3, 4, 5] rfl)
  · refine lv_aload_n hx hb dL_law_120 rfl (lv_at hl 1 rfl) ?_
    refine lv_aload_n hx hb dL_law_121 rfl (lv_at hl 0 rfl) ?_
    refine lv_iload hx hb dL_law_122 (lv_at hl 4 rfl) ?_
    refine lv_iconst (v := 1) hx hb dL_law_124 (by decide) ?_
    refine lv_iadd hx hb dL_law_125 ?_
    refine va_sld hx hb hX hbl hbA hS hi1 dL_law_126 ?_
    rw [ev1]
    refine lv_aload_n hx hb dL_law_127 rfl (lv_at hl 0 rfl) ?_
    refine lv_iload hx hb dL_law_128 (lv_at hl 4 rfl) ?_
    refine lv_iconst (v := 2) hx hb dL_law_130 (by decide) ?_
    refine lv_iadd hx hb dL_law_131 ?_
    refine va_sld hx hb hX hbl hbA hS hi2 dL_law_132 ?_
    rw [ev2]
    refine roWt (As := [.ref h, .int v1, .int v2]) (rest := []) ⟨hx, hb, hml, hown, hts⟩ (uL_take l hl0 G cI _ h e0 r0 v1 v2 h3) (vx_cwSW 3 hts gL_law_L_take rfl rfl rfl (by decide +kernel) ⟨Nat.le_of_ble_eq_true rfl, Nat.le_of_ble_eq_true rfl⟩) hK hT1 hZ hP (hP.sub [0] rfl) rfl hl.1 rfl (Nat.le_of_ble_eq_true rfl) dL_law_133 ⟨Nat.le_trans (Nat.add_le_add_left (show 1 ≤ 2 by decide) _) hc, Nat.le_trans (Nat.add_le_add_left (show 6 ≤ 6 by decide) _) hs⟩ hS hA (fun H locs hP hz1 hS => ?_)
    refine W.widen (k := cells + 2) (n := slots + 6) (by omega) (by omega) ?_
    refine lv_istore (lv' := [(5, .int 1), (0, .ref b), (1, .ref h), (2, .ref g4), (3, .ref ao), (4, .int i)]) hx hb dL_law_136 hl (by decide) rfl (fun ls hl => ?_)
    refine lv_aload_n hx hb dL_law_138 rfl (lv_at hl 3 rfl) ?_
    refine lv_aload_n hx hb dL_law_139 rfl (lv_at hl 1 rfl) ?_
    refine lv_iload hx hb dL_law_140 (lv_at hl 5 rfl) ?_
    refine lv_iconst (v := 1) hx hb dL_law_142 (by decide) ?_
    refine lv_iadd hx hb dL_law_143 ?_
    refine va_sld hx hb hX hbl hbA hS hi1 dL_law_144 ?_
    rw [ev1]
    refine lv_aload_n hx hb dL_law_145 rfl (lv_at hl 1 rfl) ?_
    refine lv_iload hx hb dL_law_146 (lv_at hl 5 rfl) ?_
    refine lv_iconst (v := 2) hx hb dL_law_148 (by decide) ?_
    refine lv_iadd hx hb dL_law_149 ?_
    refine va_sld hx hb hX hbl hbA hS hi2 dL_law_150 ?_
    rw [ev2]
    refine mcVv (As := [.int v1, .int v2]) (rest := []) (wr := [(h, .inr (3, [.ref e0, .ref r0])), (e0, .inr (0, [.ref a1, .ref a2, .ref a3, .int cn])), (a1, .inl (cI, 32, .inl qs)), (a2, .inl (cI, 33, .inl ts)), (a3, .inl (cI, 33, .inl bs)), (r0, .inr (2, [.ref a4])), (a4, .inl (cI, 201, .inl mo)), (ao, .inl (cJ, 1, .inr (.inl ol)))]) (wc := [(g4, .inr (4, [.int mth, .int (nI P), .int (nI Q0), .int mmn, .ref a5, .int mrs, .ref a6, .long mlt, .long mlb, .long mht, .long mhb])), (a5, .inl (cI, 64, .inl mte)), (a6, .inl (cI, 64, .inl mru))]) ⟨hx, hb, hml, hown, hts⟩ (zX4_take l G cI _ g4 a5 a6 mth (nI P) (nI Q0) mmn mte mrs mru mlt mlb mht mhb v1 v2 h4) (cwV 2 hts gL_law_X4_take rfl rfl rfl (by decide +kernel) ⟨Nat.le_of_ble_eq_true rfl, Nat.le_of_ble_eq_true rfl⟩) hK hP hD [7, 8, 9] [0, 1, 2, 3, 4, 5, 6, 10] rfl rfl rfl (by decide) (by decide) (by decide) rfl rfl rfl hl.1 rfl (Nat.le_of_ble_eq_true rfl) dL_law_151 ⟨hc, hs⟩ hS hA (fun H locs hP hD hz151 hS => ?_)
    have hP : va_P G vwCl (LW cI cJ h e0 a1 a2 a3 r0 a4 g4 a5 a6 ao mo qs ts bs cn 1 (nI P) (nI Q0) mmn mte mrs mru mlt mlb mht mhb ol) H := hP.sub [0, 1, 2, 3, 4, 5, 6, 8, 9, 10, 7] rfl
    have hD : va_D A (LW cI cJ h e0 a1 a2 a3 r0 a4 g4 a5 a6 ao mo qs ts bs cn 1 (nI P) (nI Q0) mmn mte mrs mru mlt mlb mht mhb ol) := hD.sub [0, 1, 2, 3, 4, 5, 6, 8, 9, 10, 7] (by decide) rfl
    refine lv_aload_n hx hb dL_law_154 rfl (lv_at hl 3 rfl) ?_
    refine roVi (As := []) (rest := []) ⟨hx, hb, hml, hown, hts⟩ (zX4_thrown l G cI _ g4 a5 a6 1 (nI P) (nI Q0) mmn mte mrs mru mlt mlb mht mhb  rfl) (cwV 0 hts gL_law_X4_thrown rfl rfl rfl (by decide +kernel) ⟨Nat.le_of_ble_eq_true rfl, Nat.le_of_ble_eq_true rfl⟩) hK hP (hP.sub [7, 8, 9] rfl) rfl rfl rfl hl.1 rfl (Nat.le_of_ble_eq_true rfl) dL_law_155 ⟨hc, hs⟩ hS hA (fun H locs hP hz155 hS => ?_)
    refine lv_iload hx hb dL_law_158 (lv_at hl 0 rfl) ?_
    refine lv_icmp_eq (tgt := 165) hx hb dL_law_160 (by decide) (fun c9 => ?_) (fun c9 => absurd rfl c9)
    refine lv_goto (tgt := 680) hx hb dL_law_165 (by decide) ?_
    exact hk P Q0 qs ts bs cn 1 mmn mte mrs mru mlt mlb mht mhb ol _ _ _ hSO hP hD hS (lv_sub hl [1, 2, 3, 4, 5] rfl)
set_option maxHeartbeats 4000000 in
set_option maxRecDepth 100000 in
theorem law_9 {p : Program} {l : Launch} {e : Env} {s : State} {m : MethodId} {below : List Frame} {meth : Method} {c : Code} {Q : State → Prop} {A : Nat → Prop} {G : va_G} {cI cJ : ClassId} {b h e0 a1 a2 a3 r0 a4 g4 a5 a6 ao L cells slots : Nat} {xs : Nat → Int32} {mo : Nat → Int32} {i v1 v2 v3 v4 : Int32} (C : LC l p s m c b L xs A G cI cJ) (hV : LV L xs i v1 v2 v3 v4) (hR : ROk mo) (hc : cells + 2 ≤ 601024) (hs : slots + 6 ≤ 7293034) (hk : LK p l e s m below meth c Q A G cI cJ b h e0 a1 a2 a3 r0 a4 g4 a5 a6 ao mo i 680 (cells + 2) (slots + 6)) : LK p l e s m below meth c Q A G cI cJ b h e0 a1 a2 a3 r0 a4 g4 a5 a6 ao mo i 368 cells slots := by
  intro P Q0 qs ts bs cn mth mmn mte mrs mru mlt mlb mht mhb ol H locs ls hSO hP hD hS hl
  obtain ⟨hx, hb, hml, hown, hts, hX, hbl, hbA, hA, hK2, hl0, hT1, hT2, hT3, hZ⟩ := C
  obtain ⟨⟨hi1, ev1⟩, ⟨hi2, ev2⟩, ⟨hi3, ev3⟩, ⟨hi4, ev4⟩⟩ := hV
  have hK := hK2.K
  rcases op_near hSO mth v1 v2 v3 with ⟨r, h3, h4⟩ | ⟨h3, r, h4⟩
  · refine lv_aload_n hx hb dL_law_368 rfl (lv_at hl 1 rfl) ?_
    refine lv_aload_n hx hb dL_law_369 rfl (lv_at hl 0 rfl) ?_
    refine lv_iload hx hb dL_law_370 (lv_at hl 4 rfl) ?_
    refine lv_iconst (v := 1) hx hb dL_law_372 (by decide) ?_
    refine lv_iadd hx hb dL_law_373 ?_
    refine va_sld hx hb hX hbl hbA hS hi1 dL_law_374 ?_
    rw [ev1]
    refine lv_aload_n hx hb dL_law_375 rfl (lv_at hl 0 rfl) ?_
    refine lv_iload hx hb dL_law_376 (lv_at hl 4 rfl) ?_
    refine lv_iconst (v := 2) hx hb dL_law_378 (by decide) ?_
    refine lv_iadd hx hb dL_law_379 ?_
    refine va_sld hx hb hX hbl hbA hS hi2 dL_law_380 ?_
    rw [ev2]
    refine lv_aload_n hx hb dL_law_381 rfl (lv_at hl 0 rfl) ?_
    refine lv_iload hx hb dL_law_382 (lv_at hl 4 rfl) ?_
    refine lv_iconst (v := 3) hx hb dL_law_384 (by decide) ?_
    refine lv_iadd hx hb dL_law_385 ?_
    refine va_sld hx hb hX hbl hbA hS hi3 dL_law_386 ?_
    rw [ev3]
    refine lv_aload_n hx hb dL_law_387 rfl (lv_at hl 3 rfl) ?_
    refine mcW2 (As := [.ref h, .int v1, .int v2, .int v3, .ref ao]) (rest := []) (wr := [(g4, .inr (4, [.int mth, .int (nI P), .int (nI Q0), .int mmn, .ref a5, .int mrs, .ref a6, .long mlt, .long mlb, .long mht, .long mhb])), (a5, .inl (cI, 64, .inl mte)), (a6, .inl (cI, 64, .inl mru))]) (wc := [(h, .inr (3, [.ref e0, .ref r0])), (e0, .inr (0, [.ref a1, .ref a2, .ref a3, .int cn])), (a1, .inl (cI, 32, .inl qs)), (a2, .inl (cI, 33, .inl ts)), (a3, .inl (cI, 33, .inl bs)), (r0, .inr (2, [.ref a4])), (a4, .inl (cI, 201, .inl mo)), (ao, .inl (cJ, 1, .inr (.inl ol)))]) ⟨hx, hb, hml, hown, hts⟩ (zL_near l G cI cJ _ h e0 a1 a2 a3 r0 a4 ao qs ts bs cn mo ol v1 v2 v3 h3) (vx_cwSW 5 hts gL_law_L_near rfl rfl rfl (by decide +kernel) ⟨Nat.le_of_ble_eq_true rfl, Nat.le_of_ble_eq_true rfl⟩) hK2 hP hD [0, 1, 2, 3, 4, 5, 6, 10] [7, 8, 9] rfl rfl rfl (by decide) (by decide) (by decide) rfl hl.1 rfl (Nat.le_of_ble_eq_true rfl) dL_law_388 ⟨Nat.le_trans (Nat.add_le_add_left (show 2 ≤ 2 by decide) _) hc, Nat.le_trans (Nat.add_le_add_left (show 4 ≤ 6 by decide) _) hs⟩ hS hA (fun H locs hP hD hz1 hS => ?_)
    have hP : va_P G vwCl (LW cI cJ h e0 a1 a2 a3 r0 a4 g4 a5 a6 ao mo qs ts bs cn mth (nI P) (nI Q0) mmn mte mrs mru mlt mlb mht mhb (vp_updL ol (Int32.toNatClampNeg 0) (Int32.toInt64 r))) H := hP.sub [3, 4, 5, 6, 7, 8, 9, 0, 1, 2, 10] rfl
    have hD : va_D A (LW cI cJ h e0 a1 a2 a3 r0 a4 g4 a5 a6 ao mo qs ts bs cn mth (nI P) (nI Q0) mmn mte mrs mru mlt mlb mht mhb (vp_updL ol (Int32.toNatClampNeg 0) (Int32.toInt64 r))) := hD.sub [3, 4, 5, 6, 7, 8, 9, 0, 1, 2, 10] (by decide) rfl
    refine W.widen (k := cells + 2) (n := slots + 6) (by omega) (by omega) ?_
    refine lv_istore (lv' := [(5, .int 0), (0, .ref b), (1, .ref h), (2, .ref g4), (3, .ref ao), (4, .int i)]) hx hb dL_law_391 hl (by decide) rfl (fun ls hl => ?_)
    refine lv_aload_n hx hb dL_law_393 rfl (lv_at hl 3 rfl) ?_
    refine lv_aload_n hx hb dL_law_394 rfl (lv_at hl 1 rfl) ?_
    refine lv_iload hx hb dL_law_395 (lv_at hl 5 rfl) ?_
    refine lv_iconst (v := 1) hx hb dL_law_397 (by decide) ?_
    refine lv_iadd hx hb dL_law_398 ?_
    refine va_sld hx hb hX hbl hbA hS hi1 dL_law_399 ?_
    rw [ev1]
    refine lv_aload_n hx hb dL_law_400 rfl (lv_at hl 1 rfl) ?_
    refine lv_iload hx hb dL_law_401 (lv_at hl 5 rfl) ?_
    refine lv_iconst (v := 2) hx hb dL_law_403 (by decide) ?_
    refine lv_iadd hx hb dL_law_404 ?_
    refine va_sld hx hb hX hbl hbA hS hi2 dL_law_405 ?_
    rw [ev2]
    refine lv_aload_n hx hb dL_law_406 rfl (lv_at hl 1 rfl) ?_
    refine lv_iload hx hb dL_law_407 (lv_at hl 5 rfl) ?_
    refine lv_iconst (v := 3) hx hb dL_law_409 (by decide) ?_
    refine lv_iadd hx hb dL_law_410 ?_
    refine va_sld hx hb hX hbl hbA hS hi3 dL_law_411 ?_
    rw [ev3]
    refine mcVi (As := [.int v1, .int v2, .int v3]) (rest := []) (wr := [(h, .inr (3, [.ref e0, .ref r0])), (e0, .inr (0, [.ref a1, .ref a2, .ref a3, .int cn])), (a1, .inl (cI, 32, .inl qs)), (a2, .inl (cI, 33, .inl ts)), (a3, .inl (cI, 33, .inl bs)), (r0, .inr (2, [.ref a4])), (a4, .inl (cI, 201, .inl mo)), (ao, .inl (cJ, 1, .inr (.inl (vp_updL ol (Int32.toNatClampNeg 0) (Int32.toInt64 r)))))]) (wc := [(g4, .inr (4, [.int mth, .int (nI P), .int (nI Q0), .int mmn, .ref a5, .int mrs, .ref a6, .long mlt, .long mlb, .long mht, .long mhb])), (a5, .inl (cI, 64, .inl mte)), (a6, .inl (cI, 64, .inl mru))]) ⟨hx, hb, hml, hown, hts⟩ (zX4_near l G cI _ g4 a5 a6 mth (nI P) (nI Q0) mmn mte mrs mru mlt mlb mht mhb v1 v2 v3 h4) (cwV 3 hts gL_law_X4_near rfl rfl rfl (by decide +kernel) ⟨Nat.le_of_ble_eq_true rfl, Nat.le_of_ble_eq_true rfl⟩) hK hP hD [7, 8, 9] [0, 1, 2, 3, 4, 5, 6, 10] rfl rfl rfl (by decide) (by decide) (by decide) rfl rfl rfl hl.1 rfl (Nat.le_of_ble_eq_true rfl) dL_law_412 ⟨hc, hs⟩ hS hA (fun H locs hP hD hz412 hS => ?_)
    have hP : va_P G vwCl (LW cI cJ h e0 a1 a2 a3 r0 a4 g4 a5 a6 ao mo qs ts bs cn 0 (nI P) (nI Q0) mmn mte mrs mru mlt mlb mht mhb (vp_updL ol (Int32.toNatClampNeg 0) (Int32.toInt64 r))) H := hP.sub [0, 1, 2, 3, 4, 5, 6, 8, 9, 10, 7] rfl
    have hD : va_D A (LW cI cJ h e0 a1 a2 a3 r0 a4 g4 a5 a6 ao mo qs ts bs cn 0 (nI P) (nI Q0) mmn mte mrs mru mlt mlb mht mhb (vp_updL ol (Int32.toNatClampNeg 0) (Int32.toInt64 r))) := hD.sub [0, 1, 2, 3, 4, 5, 6, 8, 9, 10, 7] (by decide) rfl
    refine lv_istore (lv' := [(6, .int r), (5, .int 0), (0, .ref b), (1, .ref h), (2, .ref g4), (3, .ref ao), (4, .int i)]) hx hb dL_law_415 hl (by decide) rfl (fun ls hl => ?_)
    refine lv_aload_n hx hb dL_law_417 rfl (lv_at hl 4 rfl) ?_
    refine roVi (As := []) (rest := []) ⟨hx, hb, hml, hown, hts⟩ (zX4_thrown l G cI _ g4 a5 a6 0 (nI P) (nI Q0) mmn mte mrs mru mlt mlb mht mhb  rfl) (cwV 0 hts gL_law_X4_thrown rfl rfl rfl (by decide +kernel) ⟨Nat.le_of_ble_eq_true rfl, Nat.le_of_ble_eq_true rfl⟩) hK hP (hP.sub [7, 8, 9] rfl) rfl rfl rfl hl.1 rfl (Nat.le_of_ble_eq_true rfl) dL_law_418 ⟨hc, hs⟩ hS hA (fun H locs hP hz418 hS => ?_)
    refine lv_iload hx hb dL_law_421 (lv_at hl 1 rfl) ?_
    refine lv_icmp_eq (tgt := 428) hx hb dL_law_423 (by decide) (fun c9 => ?_) (fun c9 => absurd rfl c9)
    refine lv_iload hx hb dL_law_428 (lv_at hl 1 rfl) ?_
    refine lv_if_ne (tgt := 445) hx hb dL_law_430 (by decide) (fun c9 => absurd rfl c9) (fun c9 => ?_)
    refine lv_aload_n hx hb dL_law_433 rfl (lv_at hl 5 rfl) ?_
    refine lv_iconst (v := 0) hx hb dL_law_434 (by decide) ?_
    refine va_lald hx hb hK2.1 hP 10 1 rfl rfl (by unfold vp_in; decide) dL_law_435 ?_
    refine lv_iload hx hb dL_law_436 (lv_at hl 0 rfl) ?_
    refine lv_i2l hx hb dL_law_438 rfl ?_
    refine W.lcmp hx hb dL_law_439 ?_
    refine lv_if_eq (tgt := 445) hx hb dL_law_440 (by decide) (fun c9 => ?_) (fun c9 => absurd ((lg_cmp_eq _ _).mpr (vp_updL_s _ _ _)) c9)
    refine lv_goto (tgt := 680) hx hb dL_law_445 (by decide) ?_
    exact hk P Q0 qs ts bs cn 0 mmn mte mrs mru mlt mlb mht mhb (vp_updL ol (Int32.toNatClampNeg 0) (Int32.toInt64 r)) _ _ _ hSO hP hD hS (lv_sub hl [2, 3, 4, 5, 6] rfl)
  · refine lv_aload_n hx hb dL_law_368 rfl (lv_at hl 1 rfl) ?_
    refine lv_aload_n hx hb dL_law_369 rfl (lv_at hl 0 rfl) ?_
    refine lv_iload hx hb dL_law_370 (lv_at hl 4 rfl) ?_
    refine lv_iconst (v := 1) hx hb dL_law_372 (by decide) ?_
    refine lv_iadd hx hb dL_law_373 ?_
    refine va_sld hx hb hX hbl hbA hS hi1 dL_law_374 ?_
    rw [ev1]
    refine lv_aload_n hx hb dL_law_375 rfl (lv_at hl 0 rfl) ?_
    refine lv_iload hx hb dL_law_376 (lv_at hl 4 rfl) ?_
    refine lv_iconst (v := 2) hx hb dL_law_378 (by decide) ?_
    refine lv_iadd hx hb dL_law_379 ?_
    refine va_sld hx hb hX hbl hbA hS hi2 dL_law_380 ?_
    rw [ev2]
    refine lv_aload_n hx hb dL_law_381 rfl (lv_at hl 0 rfl) ?_
    refine lv_iload hx hb dL_law_382 (lv_at hl 4 rfl) ?_
    refine lv_iconst (v := 3) hx hb dL_law_384 (by decide) ?_
    refine lv_iadd hx hb dL_law_385 ?_
    refine va_sld hx hb hX hbl hbA hS hi3 dL_law_386 ?_
    rw [ev3]
    refine lv_aload_n hx hb dL_law_387 rfl (lv_at hl 3 rfl) ?_
    refine roWt (As := [.ref h, .int v1, .int v2, .int v3, .ref ao]) (rest := []) ⟨hx, hb, hml, hown, hts⟩ (uL_near l hl0 G cI _ h e0 r0 ao v1 v2 v3 h3) (vx_cwSW 5 hts gL_law_L_near rfl rfl rfl (by decide +kernel) ⟨Nat.le_of_ble_eq_true rfl, Nat.le_of_ble_eq_true rfl⟩) hK hT2 hZ hP (hP.sub [0] rfl) rfl hl.1 rfl (Nat.le_of_ble_eq_true rfl) dL_law_388 ⟨Nat.le_trans (Nat.add_le_add_left (show 1 ≤ 2 by decide) _) hc, Nat.le_trans (Nat.add_le_add_left (show 6 ≤ 6 by decide) _) hs⟩ hS hA (fun H locs hP hz1 hS => ?_)
    refine W.widen (k := cells + 2) (n := slots + 6) (by omega) (by omega) ?_
    refine lv_istore (lv' := [(5, .int 1), (0, .ref b), (1, .ref h), (2, .ref g4), (3, .ref ao), (4, .int i)]) hx hb dL_law_391 hl (by decide) rfl (fun ls hl => ?_)
    refine lv_aload_n hx hb dL_law_393 rfl (lv_at hl 3 rfl) ?_
    refine lv_aload_n hx hb dL_law_394 rfl (lv_at hl 1 rfl) ?_
    refine lv_iload hx hb dL_law_395 (lv_at hl 5 rfl) ?_
    refine lv_iconst (v := 1) hx hb dL_law_397 (by decide) ?_
    refine lv_iadd hx hb dL_law_398 ?_
    refine va_sld hx hb hX hbl hbA hS hi1 dL_law_399 ?_
    rw [ev1]
    refine lv_aload_n hx hb dL_law_400 rfl (lv_at hl 1 rfl) ?_
    refine lv_iload hx hb dL_law_401 (lv_at hl 5 rfl) ?_
    refine lv_iconst (v := 2) hx hb dL_law_403 (by decide) ?_
    refine lv_iadd hx hb dL_law_404 ?_
    refine va_sld hx hb hX hbl hbA hS hi2 dL_law_405 ?_
    rw [ev2]
    refine lv_aload_n hx hb dL_law_406 rfl (lv_at hl 1 rfl) ?_
    refine lv_iload hx hb dL_law_407 (lv_at hl 5 rfl) ?_
    refine lv_iconst (v := 3) hx hb dL_law_409 (by decide) ?_
    refine lv_iadd hx hb dL_law_410 ?_
    refine va_sld hx hb hX hbl hbA hS hi3 dL_law_411 ?_
    rw [ev3]
    refine mcVi (As := [.int v1, .int v2, .int v3]) (rest := []) (wr := [(h, .inr (3, [.ref e0, .ref r0])), (e0, .inr (0, [.ref a1, .ref a2, .ref a3, .int cn])), (a1, .inl (cI, 32, .inl qs)), (a2, .inl (cI, 33, .inl ts)), (a3, .inl (cI, 33, .inl bs)), (r0, .inr (2, [.ref a4])), (a4, .inl (cI, 201, .inl mo)), (ao, .inl (cJ, 1, .inr (.inl ol)))]) (wc := [(g4, .inr (4, [.int mth, .int (nI P), .int (nI Q0), .int mmn, .ref a5, .int mrs, .ref a6, .long mlt, .long mlb, .long mht, .long mhb])), (a5, .inl (cI, 64, .inl mte)), (a6, .inl (cI, 64, .inl mru))]) ⟨hx, hb, hml, hown, hts⟩ (zX4_near l G cI _ g4 a5 a6 mth (nI P) (nI Q0) mmn mte mrs mru mlt mlb mht mhb v1 v2 v3 h4) (cwV 3 hts gL_law_X4_near rfl rfl rfl (by decide +kernel) ⟨Nat.le_of_ble_eq_true rfl, Nat.le_of_ble_eq_true rfl⟩) hK hP hD [7, 8, 9] [0, 1, 2, 3, 4, 5, 6, 10] rfl rfl rfl (by decide) (by decide) (by decide) rfl rfl rfl hl.1 rfl (Nat.le_of_ble_eq_true rfl) dL_law_412 ⟨hc, hs⟩ hS hA (fun H locs hP hD hz412 hS => ?_)
    have hP : va_P G vwCl (LW cI cJ h e0 a1 a2 a3 r0 a4 g4 a5 a6 ao mo qs ts bs cn 1 (nI P) (nI Q0) mmn mte mrs mru mlt mlb mht mhb ol) H := hP.sub [0, 1, 2, 3, 4, 5, 6, 8, 9, 10, 7] rfl
    have hD : va_D A (LW cI cJ h e0 a1 a2 a3 r0 a4 g4 a5 a6 ao mo qs ts bs cn 1 (nI P) (nI Q0) mmn mte mrs mru mlt mlb mht mhb ol) := hD.sub [0, 1, 2, 3, 4, 5, 6, 8, 9, 10, 7] (by decide) rfl
    refine lv_istore (lv' := [(6, .int r), (5, .int 1), (0, .ref b), (1, .ref h), (2, .ref g4), (3, .ref ao), (4, .int i)]) hx hb dL_law_415 hl (by decide) rfl (fun ls hl => ?_)
    refine lv_aload_n hx hb dL_law_417 rfl (lv_at hl 4 rfl) ?_
    refine roVi (As := []) (rest := []) ⟨hx, hb, hml, hown, hts⟩ (zX4_thrown l G cI _ g4 a5 a6 1 (nI P) (nI Q0) mmn mte mrs mru mlt mlb mht mhb  rfl) (cwV 0 hts gL_law_X4_thrown rfl rfl rfl (by decide +kernel) ⟨Nat.le_of_ble_eq_true rfl, Nat.le_of_ble_eq_true rfl⟩) hK hP (hP.sub [7, 8, 9] rfl) rfl rfl rfl hl.1 rfl (Nat.le_of_ble_eq_true rfl) dL_law_418 ⟨hc, hs⟩ hS hA (fun H locs hP hz418 hS => ?_)
    refine lv_iload hx hb dL_law_421 (lv_at hl 1 rfl) ?_
    refine lv_icmp_eq (tgt := 428) hx hb dL_law_423 (by decide) (fun c9 => ?_) (fun c9 => absurd rfl c9)
    refine lv_iload hx hb dL_law_428 (lv_at hl 1 rfl) ?_
    refine lv_if_ne (tgt := 445) hx hb dL_law_430 (by decide) (fun c9 => ?_) (fun c9 => absurd c9 (by decide))
    refine lv_goto (tgt := 680) hx hb dL_law_445 (by decide) ?_
    exact hk P Q0 qs ts bs cn 1 mmn mte mrs mru mlt mlb mht mhb ol _ _ _ hSO hP hD hS (lv_sub hl [2, 3, 4, 5, 6] rfl)
set_option maxHeartbeats 4000000 in
set_option maxRecDepth 100000 in
theorem law_10 {p : Program} {l : Launch} {e : Env} {s : State} {m : MethodId} {below : List Frame} {meth : Method} {c : Code} {Q : State → Prop} {A : Nat → Prop} {G : va_G} {cI cJ : ClassId} {b h e0 a1 a2 a3 r0 a4 g4 a5 a6 ao L cells slots : Nat} {xs : Nat → Int32} {mo : Nat → Int32} {i v1 v2 v3 v4 : Int32} (C : LC l p s m c b L xs A G cI cJ) (hV : LV L xs i v1 v2 v3 v4) (hR : ROk mo) (hc : cells + 2 ≤ 601024) (hs : slots + 6 ≤ 7293034) (hk : LK p l e s m below meth c Q A G cI cJ b h e0 a1 a2 a3 r0 a4 g4 a5 a6 ao mo i 680 (cells + 2) (slots + 6)) : LK p l e s m below meth c Q A G cI cJ b h e0 a1 a2 a3 r0 a4 g4 a5 a6 ao mo i 448 cells slots := by
  intro P Q0 qs ts bs cn mth mmn mte mrs mru mlt mlb mht mhb ol H locs ls hSO hP hD hS hl
  obtain ⟨hx, hb, hml, hown, hts, hX, hbl, hbA, hA, hK2, hl0, hT1, hT2, hT3, hZ⟩ := C
  obtain ⟨⟨hi1, ev1⟩, ⟨hi2, ev2⟩, ⟨hi3, ev3⟩, ⟨hi4, ev4⟩⟩ := hV
  have hK := hK2.K
  rcases op_between hSO mth v1 v2 v3 v4 with ⟨r, P', Q', qs', ts', bs', cn', h3, hSO', h4⟩ | ⟨h3, r, h4⟩
  · refine lv_aload_n hx hb dL_law_448 rfl (lv_at hl 1 rfl) ?_
    refine lv_aload_n hx hb dL_law_449 rfl (lv_at hl 0 rfl) ?_
    refine lv_iload hx hb dL_law_450 (lv_at hl 4 rfl) ?_
    refine lv_iconst (v := 1) hx hb dL_law_452 (by decide) ?_
    refine lv_iadd hx hb dL_law_453 ?_
    refine va_sld hx hb hX hbl hbA hS hi1 dL_law_454 ?_
    rw [ev1]
    refine lv_aload_n hx hb dL_law_455 rfl (lv_at hl 0 rfl) ?_
    refine lv_iload hx hb dL_law_456 (lv_at hl 4 rfl) ?_
    refine lv_iconst (v := 2) hx hb dL_law_458 (by decide) ?_
    refine lv_iadd hx hb dL_law_459 ?_
    refine va_sld hx hb hX hbl hbA hS hi2 dL_law_460 ?_
    rw [ev2]
    refine lv_aload_n hx hb dL_law_461 rfl (lv_at hl 0 rfl) ?_
    refine lv_iload hx hb dL_law_462 (lv_at hl 4 rfl) ?_
    refine lv_iconst (v := 3) hx hb dL_law_464 (by decide) ?_
    refine lv_iadd hx hb dL_law_465 ?_
    refine va_sld hx hb hX hbl hbA hS hi3 dL_law_466 ?_
    rw [ev3]
    refine lv_aload_n hx hb dL_law_467 rfl (lv_at hl 0 rfl) ?_
    refine lv_iload hx hb dL_law_468 (lv_at hl 4 rfl) ?_
    refine lv_iconst (v := 4) hx hb dL_law_470 (by decide) ?_
    refine lv_iadd hx hb dL_law_471 ?_
    refine va_sld hx hb hX hbl hbA hS hi4 dL_law_472 ?_
    rw [ev4]
    refine lv_aload_n hx hb dL_law_473 rfl (lv_at hl 3 rfl) ?_
    refine mcW2 (As := [.ref h, .int v1, .int v2, .int v3, .int v4, .ref ao]) (rest := []) (wr := [(g4, .inr (4, [.int mth, .int (nI P), .int (nI Q0), .int mmn, .ref a5, .int mrs, .ref a6, .long mlt, .long mlb, .long mht, .long mhb])), (a5, .inl (cI, 64, .inl mte)), (a6, .inl (cI, 64, .inl mru))]) (wc := [(h, .inr (3, [.ref e0, .ref r0])), (e0, .inr (0, [.ref a1, .ref a2, .ref a3, .int cn])), (a1, .inl (cI, 32, .inl qs)), (a2, .inl (cI, 33, .inl ts)), (a3, .inl (cI, 33, .inl bs)), (r0, .inr (2, [.ref a4])), (a4, .inl (cI, 201, .inl mo)), (ao, .inl (cJ, 1, .inr (.inl ol)))]) ⟨hx, hb, hml, hown, hts⟩ (zL_between l G cI cJ _ h e0 a1 a2 a3 r0 a4 ao qs ts bs cn mo ol v1 v2 v3 v4 h3) (vx_cwSW 6 hts gL_law_L_between rfl rfl rfl (by decide +kernel) ⟨Nat.le_of_ble_eq_true rfl, Nat.le_of_ble_eq_true rfl⟩) hK2 hP hD [0, 1, 2, 3, 4, 5, 6, 10] [7, 8, 9] rfl rfl rfl (by decide) (by decide) (by decide) rfl hl.1 rfl (Nat.le_of_ble_eq_true rfl) dL_law_474 ⟨Nat.le_trans (Nat.add_le_add_left (show 0 ≤ 2 by decide) _) hc, Nat.le_trans (Nat.add_le_add_left (show 0 ≤ 6 by decide) _) hs⟩ hS hA (fun H locs hP hD hz1 hS => ?_)
    have hP : va_P G vwCl (LW cI cJ h e0 a1 a2 a3 r0 a4 g4 a5 a6 ao mo qs' ts' bs' cn' mth (nI P) (nI Q0) mmn mte mrs mru mlt mlb mht mhb (vp_updL ol (Int32.toNatClampNeg 0) (Int32.toInt64 r))) H := hP.sub [3, 4, 5, 6, 7, 8, 9, 0, 1, 2, 10] rfl
    have hD : va_D A (LW cI cJ h e0 a1 a2 a3 r0 a4 g4 a5 a6 ao mo qs' ts' bs' cn' mth (nI P) (nI Q0) mmn mte mrs mru mlt mlb mht mhb (vp_updL ol (Int32.toNatClampNeg 0) (Int32.toInt64 r))) := hD.sub [3, 4, 5, 6, 7, 8, 9, 0, 1, 2, 10] (by decide) rfl
    refine W.widen (k := cells + 2) (n := slots + 6) (by omega) (by omega) ?_
    refine lv_istore (lv' := [(5, .int 0), (0, .ref b), (1, .ref h), (2, .ref g4), (3, .ref ao), (4, .int i)]) hx hb dL_law_477 hl (by decide) rfl (fun ls hl => ?_)
    refine lv_aload_n hx hb dL_law_479 rfl (lv_at hl 3 rfl) ?_
    refine lv_aload_n hx hb dL_law_480 rfl (lv_at hl 1 rfl) ?_
    refine lv_iload hx hb dL_law_481 (lv_at hl 5 rfl) ?_
    refine lv_iconst (v := 1) hx hb dL_law_483 (by decide) ?_
    refine lv_iadd hx hb dL_law_484 ?_
    refine va_sld hx hb hX hbl hbA hS hi1 dL_law_485 ?_
    rw [ev1]
    refine lv_aload_n hx hb dL_law_486 rfl (lv_at hl 1 rfl) ?_
    refine lv_iload hx hb dL_law_487 (lv_at hl 5 rfl) ?_
    refine lv_iconst (v := 2) hx hb dL_law_489 (by decide) ?_
    refine lv_iadd hx hb dL_law_490 ?_
    refine va_sld hx hb hX hbl hbA hS hi2 dL_law_491 ?_
    rw [ev2]
    refine lv_aload_n hx hb dL_law_492 rfl (lv_at hl 1 rfl) ?_
    refine lv_iload hx hb dL_law_493 (lv_at hl 5 rfl) ?_
    refine lv_iconst (v := 3) hx hb dL_law_495 (by decide) ?_
    refine lv_iadd hx hb dL_law_496 ?_
    refine va_sld hx hb hX hbl hbA hS hi3 dL_law_497 ?_
    rw [ev3]
    refine lv_aload_n hx hb dL_law_498 rfl (lv_at hl 1 rfl) ?_
    refine lv_iload hx hb dL_law_499 (lv_at hl 5 rfl) ?_
    refine lv_iconst (v := 4) hx hb dL_law_501 (by decide) ?_
    refine lv_iadd hx hb dL_law_502 ?_
    refine va_sld hx hb hX hbl hbA hS hi4 dL_law_503 ?_
    rw [ev4]
    refine mcVi (As := [.int v1, .int v2, .int v3, .int v4]) (rest := []) (wr := [(h, .inr (3, [.ref e0, .ref r0])), (e0, .inr (0, [.ref a1, .ref a2, .ref a3, .int cn'])), (a1, .inl (cI, 32, .inl qs')), (a2, .inl (cI, 33, .inl ts')), (a3, .inl (cI, 33, .inl bs')), (r0, .inr (2, [.ref a4])), (a4, .inl (cI, 201, .inl mo)), (ao, .inl (cJ, 1, .inr (.inl (vp_updL ol (Int32.toNatClampNeg 0) (Int32.toInt64 r)))))]) (wc := [(g4, .inr (4, [.int mth, .int (nI P), .int (nI Q0), .int mmn, .ref a5, .int mrs, .ref a6, .long mlt, .long mlb, .long mht, .long mhb])), (a5, .inl (cI, 64, .inl mte)), (a6, .inl (cI, 64, .inl mru))]) ⟨hx, hb, hml, hown, hts⟩ (zX4_between l G cI _ g4 a5 a6 mth (nI P) (nI Q0) mmn mte mrs mru mlt mlb mht mhb v1 v2 v3 v4 h4) (cwV 4 hts gL_law_X4_between rfl rfl rfl (by decide +kernel) ⟨Nat.le_of_ble_eq_true rfl, Nat.le_of_ble_eq_true rfl⟩) hK hP hD [7, 8, 9] [0, 1, 2, 3, 4, 5, 6, 10] rfl rfl rfl (by decide) (by decide) (by decide) rfl rfl rfl hl.1 rfl (Nat.le_of_ble_eq_true rfl) dL_law_504 ⟨hc, hs⟩ hS hA (fun H locs hP hD hz504 hS => ?_)
    have hP : va_P G vwCl (LW cI cJ h e0 a1 a2 a3 r0 a4 g4 a5 a6 ao mo qs' ts' bs' cn' 0 (nI P') (nI Q') mmn mte mrs mru mlt mlb mht mhb (vp_updL ol (Int32.toNatClampNeg 0) (Int32.toInt64 r))) H := hP.sub [0, 1, 2, 3, 4, 5, 6, 8, 9, 10, 7] rfl
    have hD : va_D A (LW cI cJ h e0 a1 a2 a3 r0 a4 g4 a5 a6 ao mo qs' ts' bs' cn' 0 (nI P') (nI Q') mmn mte mrs mru mlt mlb mht mhb (vp_updL ol (Int32.toNatClampNeg 0) (Int32.toInt64 r))) := hD.sub [0, 1, 2, 3, 4, 5, 6, 8, 9, 10, 7] (by decide) rfl
    refine lv_istore (lv' := [(6, .int r), (5, .int 0), (0, .ref b), (1, .ref h), (2, .ref g4), (3, .ref ao), (4, .int i)]) hx hb dL_law_507 hl (by decide) rfl (fun ls hl => ?_)
    refine lv_aload_n hx hb dL_law_509 rfl (lv_at hl 4 rfl) ?_
    refine roVi (As := []) (rest := []) ⟨hx, hb, hml, hown, hts⟩ (zX4_thrown l G cI _ g4 a5 a6 0 (nI P') (nI Q') mmn mte mrs mru mlt mlb mht mhb  rfl) (cwV 0 hts gL_law_X4_thrown rfl rfl rfl (by decide +kernel) ⟨Nat.le_of_ble_eq_true rfl, Nat.le_of_ble_eq_true rfl⟩) hK hP (hP.sub [7, 8, 9] rfl) rfl rfl rfl hl.1 rfl (Nat.le_of_ble_eq_true rfl) dL_law_510 ⟨hc, hs⟩ hS hA (fun H locs hP hz510 hS => ?_)
    refine lv_iload hx hb dL_law_513 (lv_at hl 1 rfl) ?_
    refine lv_icmp_eq (tgt := 520) hx hb dL_law_515 (by decide) (fun c9 => ?_) (fun c9 => absurd rfl c9)
    refine lv_iload hx hb dL_law_520 (lv_at hl 1 rfl) ?_
    refine lv_if_ne (tgt := 537) hx hb dL_law_522 (by decide) (fun c9 => absurd rfl c9) (fun c9 => ?_)
    refine lv_aload_n hx hb dL_law_525 rfl (lv_at hl 5 rfl) ?_
    refine lv_iconst (v := 0) hx hb dL_law_526 (by decide) ?_
    refine va_lald hx hb hK2.1 hP 10 1 rfl rfl (by unfold vp_in; decide) dL_law_527 ?_
    refine lv_iload hx hb dL_law_528 (lv_at hl 0 rfl) ?_
    refine lv_i2l hx hb dL_law_530 rfl ?_
    refine W.lcmp hx hb dL_law_531 ?_
    refine lv_if_eq (tgt := 537) hx hb dL_law_532 (by decide) (fun c9 => ?_) (fun c9 => absurd ((lg_cmp_eq _ _).mpr (vp_updL_s _ _ _)) c9)
    refine lv_goto (tgt := 680) hx hb dL_law_537 (by decide) ?_
    exact hk P' Q' qs' ts' bs' cn' 0 mmn mte mrs mru mlt mlb mht mhb (vp_updL ol (Int32.toNatClampNeg 0) (Int32.toInt64 r)) _ _ _ hSO' hP hD hS (lv_sub hl [2, 3, 4, 5, 6] rfl)
  · refine lv_aload_n hx hb dL_law_448 rfl (lv_at hl 1 rfl) ?_
    refine lv_aload_n hx hb dL_law_449 rfl (lv_at hl 0 rfl) ?_
    refine lv_iload hx hb dL_law_450 (lv_at hl 4 rfl) ?_
    refine lv_iconst (v := 1) hx hb dL_law_452 (by decide) ?_
    refine lv_iadd hx hb dL_law_453 ?_
    refine va_sld hx hb hX hbl hbA hS hi1 dL_law_454 ?_
    rw [ev1]
    refine lv_aload_n hx hb dL_law_455 rfl (lv_at hl 0 rfl) ?_
    refine lv_iload hx hb dL_law_456 (lv_at hl 4 rfl) ?_
    refine lv_iconst (v := 2) hx hb dL_law_458 (by decide) ?_
    refine lv_iadd hx hb dL_law_459 ?_
    refine va_sld hx hb hX hbl hbA hS hi2 dL_law_460 ?_
    rw [ev2]
    refine lv_aload_n hx hb dL_law_461 rfl (lv_at hl 0 rfl) ?_
    refine lv_iload hx hb dL_law_462 (lv_at hl 4 rfl) ?_
    refine lv_iconst (v := 3) hx hb dL_law_464 (by decide) ?_
    refine lv_iadd hx hb dL_law_465 ?_
    refine va_sld hx hb hX hbl hbA hS hi3 dL_law_466 ?_
    rw [ev3]
    refine lv_aload_n hx hb dL_law_467 rfl (lv_at hl 0 rfl) ?_
    refine lv_iload hx hb dL_law_468 (lv_at hl 4 rfl) ?_
    refine lv_iconst (v := 4) hx hb dL_law_470 (by decide) ?_
    refine lv_iadd hx hb dL_law_471 ?_
    refine va_sld hx hb hX hbl hbA hS hi4 dL_law_472 ?_
    rw [ev4]
    refine lv_aload_n hx hb dL_law_473 rfl (lv_at hl 3 rfl) ?_
    refine roWt (As := [.ref h, .int v1, .int v2, .int v3, .int v4, .ref ao]) (rest := []) ⟨hx, hb, hml, hown, hts⟩ (uL_between l hl0 G cI _ h e0 r0 ao v1 v2 v3 v4 h3) (vx_cwSW 6 hts gL_law_L_between rfl rfl rfl (by decide +kernel) ⟨Nat.le_of_ble_eq_true rfl, Nat.le_of_ble_eq_true rfl⟩) hK hT3 hZ hP (hP.sub [0] rfl) rfl hl.1 rfl (Nat.le_of_ble_eq_true rfl) dL_law_474 ⟨Nat.le_trans (Nat.add_le_add_left (show 1 ≤ 2 by decide) _) hc, Nat.le_trans (Nat.add_le_add_left (show 6 ≤ 6 by decide) _) hs⟩ hS hA (fun H locs hP hz1 hS => ?_)
    refine W.widen (k := cells + 2) (n := slots + 6) (by omega) (by omega) ?_
    refine lv_istore (lv' := [(5, .int 1), (0, .ref b), (1, .ref h), (2, .ref g4), (3, .ref ao), (4, .int i)]) hx hb dL_law_477 hl (by decide) rfl (fun ls hl => ?_)
    refine lv_aload_n hx hb dL_law_479 rfl (lv_at hl 3 rfl) ?_
    refine lv_aload_n hx hb dL_law_480 rfl (lv_at hl 1 rfl) ?_
    refine lv_iload hx hb dL_law_481 (lv_at hl 5 rfl) ?_
    refine lv_iconst (v := 1) hx hb dL_law_483 (by decide) ?_
    refine lv_iadd hx hb dL_law_484 ?_
    refine va_sld hx hb hX hbl hbA hS hi1 dL_law_485 ?_
    rw [ev1]
    refine lv_aload_n hx hb dL_law_486 rfl (lv_at hl 1 rfl) ?_
    refine lv_iload hx hb dL_law_487 (lv_at hl 5 rfl) ?_
    refine lv_iconst (v := 2) hx hb dL_law_489 (by decide) ?_
    refine lv_iadd hx hb dL_law_490 ?_
    refine va_sld hx hb hX hbl hbA hS hi2 dL_law_491 ?_
    rw [ev2]
    refine lv_aload_n hx hb dL_law_492 rfl (lv_at hl 1 rfl) ?_
    refine lv_iload hx hb dL_law_493 (lv_at hl 5 rfl) ?_
    refine lv_iconst (v := 3) hx hb dL_law_495 (by decide) ?_
    refine lv_iadd hx hb dL_law_496 ?_
    refine va_sld hx hb hX hbl hbA hS hi3 dL_law_497 ?_
    rw [ev3]
    refine lv_aload_n hx hb dL_law_498 rfl (lv_at hl 1 rfl) ?_
    refine lv_iload hx hb dL_law_499 (lv_at hl 5 rfl) ?_
    refine lv_iconst (v := 4) hx hb dL_law_501 (by decide) ?_
    refine lv_iadd hx hb dL_law_502 ?_
    refine va_sld hx hb hX hbl hbA hS hi4 dL_law_503 ?_
    rw [ev4]
    refine mcVi (As := [.int v1, .int v2, .int v3, .int v4]) (rest := []) (wr := [(h, .inr (3, [.ref e0, .ref r0])), (e0, .inr (0, [.ref a1, .ref a2, .ref a3, .int cn])), (a1, .inl (cI, 32, .inl qs)), (a2, .inl (cI, 33, .inl ts)), (a3, .inl (cI, 33, .inl bs)), (r0, .inr (2, [.ref a4])), (a4, .inl (cI, 201, .inl mo)), (ao, .inl (cJ, 1, .inr (.inl ol)))]) (wc := [(g4, .inr (4, [.int mth, .int (nI P), .int (nI Q0), .int mmn, .ref a5, .int mrs, .ref a6, .long mlt, .long mlb, .long mht, .long mhb])), (a5, .inl (cI, 64, .inl mte)), (a6, .inl (cI, 64, .inl mru))]) ⟨hx, hb, hml, hown, hts⟩ (zX4_between l G cI _ g4 a5 a6 mth (nI P) (nI Q0) mmn mte mrs mru mlt mlb mht mhb v1 v2 v3 v4 h4) (cwV 4 hts gL_law_X4_between rfl rfl rfl (by decide +kernel) ⟨Nat.le_of_ble_eq_true rfl, Nat.le_of_ble_eq_true rfl⟩) hK hP hD [7, 8, 9] [0, 1, 2, 3, 4, 5, 6, 10] rfl rfl rfl (by decide) (by decide) (by decide) rfl rfl rfl hl.1 rfl (Nat.le_of_ble_eq_true rfl) dL_law_504 ⟨hc, hs⟩ hS hA (fun H locs hP hD hz504 hS => ?_)
    have hP : va_P G vwCl (LW cI cJ h e0 a1 a2 a3 r0 a4 g4 a5 a6 ao mo qs ts bs cn 1 (nI P) (nI Q0) mmn mte mrs mru mlt mlb mht mhb ol) H := hP.sub [0, 1, 2, 3, 4, 5, 6, 8, 9, 10, 7] rfl
    have hD : va_D A (LW cI cJ h e0 a1 a2 a3 r0 a4 g4 a5 a6 ao mo qs ts bs cn 1 (nI P) (nI Q0) mmn mte mrs mru mlt mlb mht mhb ol) := hD.sub [0, 1, 2, 3, 4, 5, 6, 8, 9, 10, 7] (by decide) rfl
    refine lv_istore (lv' := [(6, .int r), (5, .int 1), (0, .ref b), (1, .ref h), (2, .ref g4), (3, .ref ao), (4, .int i)]) hx hb dL_law_507 hl (by decide) rfl (fun ls hl => ?_)
    refine lv_aload_n hx hb dL_law_509 rfl (lv_at hl 4 rfl) ?_
    refine roVi (As := []) (rest := []) ⟨hx, hb, hml, hown, hts⟩ (zX4_thrown l G cI _ g4 a5 a6 1 (nI P) (nI Q0) mmn mte mrs mru mlt mlb mht mhb  rfl) (cwV 0 hts gL_law_X4_thrown rfl rfl rfl (by decide +kernel) ⟨Nat.le_of_ble_eq_true rfl, Nat.le_of_ble_eq_true rfl⟩) hK hP (hP.sub [7, 8, 9] rfl) rfl rfl rfl hl.1 rfl (Nat.le_of_ble_eq_true rfl) dL_law_510 ⟨hc, hs⟩ hS hA (fun H locs hP hz510 hS => ?_)
    refine lv_iload hx hb dL_law_513 (lv_at hl 1 rfl) ?_
    refine lv_icmp_eq (tgt := 520) hx hb dL_law_515 (by decide) (fun c9 => ?_) (fun c9 => absurd rfl c9)
    refine lv_iload hx hb dL_law_520 (lv_at hl 1 rfl) ?_
    refine lv_if_ne (tgt := 537) hx hb dL_law_522 (by decide) (fun c9 => ?_) (fun c9 => absurd c9 (by decide))
    refine lv_goto (tgt := 680) hx hb dL_law_537 (by decide) ?_
    exact hk P Q0 qs ts bs cn 1 mmn mte mrs mru mlt mlb mht mhb ol _ _ _ hSO hP hD hS (lv_sub hl [2, 3, 4, 5, 6] rfl)

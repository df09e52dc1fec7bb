theorem vp_updL_s (f : Nat → Int64) (k : Nat) (x : Int64) : vp_updL f k x k = x := by unfold vp_updL; simp
set_option maxHeartbeats 4000000 in
set_option maxRecDepth 100000 in
theorem law_1 {p : Program} {l : Launch} {e : Env} {s : State} {m : MethodId} {below : List Frame} {meth : Method} {c : Code} {Q : State → Prop} {A : Nat → Prop} {G : va_G} {cI cJ : ClassId} {b h e0 a1 a2 a3 r0 a4 g4 a5 a6 ao L cells slots : Nat} {xs : Nat → Int32} {mo : Nat → Int32} {i v1 v2 v3 v4 : Int32} (C : LC l p s m c b L xs A G cI cJ) (hV : LV L xs i v1 v2 v3 v4) (hR : ROk mo) (hc : cells + 2 ≤ 601024) (hs : slots + 6 ≤ 7293034) (hk : LK p l e s m below meth c Q A G cI cJ b h e0 a1 a2 a3 r0 a4 g4 a5 a6 ao mo i 680 (cells + 2) (slots + 6)) : LK p l e s m below meth c Q A G cI cJ b h e0 a1 a2 a3 r0 a4 g4 a5 a6 ao mo i 168 cells slots := by
  intro P Q0 qs ts bs cn mth mmn mte mrs mru mlt mlb mht mhb ol H locs ls hSO hP hD hS hl
  obtain ⟨hx, hb, hml, hown, hts, hX, hbl, hbA, hA, hK2, hl0, hT1, hT2, hT3, hZ⟩ := C
  obtain ⟨⟨hi1, ev1⟩, ⟨hi2, ev2⟩, ⟨hi3, ev3⟩, ⟨hi4, ev4⟩⟩ := hV
  have hK := hK2.K
  obtain ⟨r, h3, h4⟩ := op_part hSO mth v1
  refine lv_aload_n hx hb dL_law_168 rfl (lv_at hl 1 rfl) ?_
  refine lv_aload_n hx hb dL_law_169 rfl (lv_at hl 0 rfl) ?_
  refine lv_iload hx hb dL_law_170 (lv_at hl 4 rfl) ?_
  refine lv_iconst (v := 1) hx hb dL_law_172 (by decide) ?_
  refine lv_iadd hx hb dL_law_173 ?_
  refine va_sld hx hb hX hbl hbA hS hi1 dL_law_174 ?_
  rw [ev1]
  refine roVi (As := [.int v1]) (rest := []) ⟨hx, hb, hml, hown, hts⟩ (zX3_part l G cI _ h e0 a1 a2 a3 r0 a4 qs ts bs cn mo v1 h3) (cwV 1 hts gL_law_X3_part rfl rfl rfl (by decide +kernel) ⟨Nat.le_of_ble_eq_true rfl, Nat.le_of_ble_eq_true rfl⟩) hK hP (hP.sub [0, 1, 2, 3, 4, 5, 6] rfl) rfl rfl rfl hl.1 rfl (Nat.le_of_ble_eq_true rfl) dL_law_175 ⟨Nat.le_trans (Nat.le_add_right _ _) hc, Nat.le_trans (Nat.le_add_right _ _) hs⟩ hS hA (fun H locs hP hz175 hS => ?_)
  refine W.widen (k := cells + 2) (n := slots + 6) (by omega) (by omega) ?_
  refine lv_aload_n hx hb dL_law_178 rfl (lv_at hl 2 rfl) ?_
  refine lv_aload_n hx hb dL_law_179 rfl (lv_at hl 0 rfl) ?_
  refine lv_iload hx hb dL_law_180 (lv_at hl 4 rfl) ?_
  refine lv_iconst (v := 1) hx hb dL_law_182 (by decide) ?_
  refine lv_iadd hx hb dL_law_183 ?_
  refine va_sld hx hb hX hbl hbA hS hi1 dL_law_184 ?_
  rw [ev1]
  refine mcVi (As := [.int v1]) (rest := [.int r]) (wr := [(h, .inr (3, [.ref e0, .ref r0])), (e0, .inr (0, [.ref a1, .ref a2, .ref a3, .int cn])), (a1, .inl (cI, 32, .inl qs)), (a2, .inl (cI, 33, .inl ts)), (a3, .inl (cI, 33, .inl bs)), (r0, .inr (2, [.ref a4])), (a4, .inl (cI, 201, .inl mo)), (ao, .inl (cJ, 1, .inr (.inl ol)))]) (wc := [(g4, .inr (4, [.int mth, .int (nI P), .int (nI Q0), .int mmn, .ref a5, .int mrs, .ref a6, .long mlt, .long mlb, .long mht, .long mhb])), (a5, .inl (cI, 64, .inl mte)), (a6, .inl (cI, 64, .inl mru))]) ⟨hx, hb, hml, hown, hts⟩ (zX4_part l G cI _ g4 a5 a6 mth (nI P) (nI Q0) mmn mte mrs mru mlt mlb mht mhb v1 h4) (cwV 1 hts gL_law_X4_part rfl rfl rfl (by decide +kernel) ⟨Nat.le_of_ble_eq_true rfl, Nat.le_of_ble_eq_true rfl⟩) hK hP hD [7, 8, 9] [0, 1, 2, 3, 4, 5, 6, 10] rfl rfl rfl (by decide) (by decide) (by decide) rfl rfl rfl hl.1 rfl (Nat.le_of_ble_eq_true rfl) dL_law_185 ⟨hc, hs⟩ hS hA (fun H locs hP hD hz185 hS => ?_)
  have hP : va_P G vwCl (LW cI cJ h e0 a1 a2 a3 r0 a4 g4 a5 a6 ao mo qs ts bs cn 0 (nI P) (nI Q0) mmn mte mrs mru mlt mlb mht mhb ol) H := hP.sub [0, 1, 2, 3, 4, 5, 6, 8, 9, 10, 7] rfl
  have hD : va_D A (LW cI cJ h e0 a1 a2 a3 r0 a4 g4 a5 a6 ao mo qs ts bs cn 0 (nI P) (nI Q0) mmn mte mrs mru mlt mlb mht mhb ol) := hD.sub [0, 1, 2, 3, 4, 5, 6, 8, 9, 10, 7] (by decide) rfl
  refine lv_icmp_eq (tgt := 680) hx hb dL_law_188 (by decide) (fun c9 => ?_) (fun c9 => absurd rfl c9)
  exact hk P Q0 qs ts bs cn 0 mmn mte mrs mru mlt mlb mht mhb ol _ _ _ hSO hP hD hS (lv_sub hl [0, 1, 2, 3, 4] rfl)
set_option maxHeartbeats 4000000 in
set_option maxRecDepth 100000 in
theorem law_2 {p : Program} {l : Launch} {e : Env} {s : State} {m : MethodId} {below : List Frame} {meth : Method} {c : Code} {Q : State → Prop} {A : Nat → Prop} {G : va_G} {cI cJ : ClassId} {b h e0 a1 a2 a3 r0 a4 g4 a5 a6 ao L cells slots : Nat} {xs : Nat → Int32} {mo : Nat → Int32} {i v1 v2 v3 v4 : Int32} (C : LC l p s m c b L xs A G cI cJ) (hV : LV L xs i v1 v2 v3 v4) (hR : ROk mo) (hc : cells + 2 ≤ 601024) (hs : slots + 6 ≤ 7293034) (hk : LK p l e s m below meth c Q A G cI cJ b h e0 a1 a2 a3 r0 a4 g4 a5 a6 ao mo i 680 (cells + 2) (slots + 6)) : LK p l e s m below meth c Q A G cI cJ b h e0 a1 a2 a3 r0 a4 g4 a5 a6 ao mo i 193 cells slots := by
  intro P Q0 qs ts bs cn mth mmn mte mrs mru mlt mlb mht mhb ol H locs ls hSO hP hD hS hl
  obtain ⟨hx, hb, hml, hown, hts, hX, hbl, hbA, hA, hK2, hl0, hT1, hT2, hT3, hZ⟩ := C
  obtain ⟨⟨hi1, ev1⟩, ⟨hi2, ev2⟩, ⟨hi3, ev3⟩, ⟨hi4, ev4⟩⟩ := hV
  have hK := hK2.K
  obtain ⟨r, mmn', mte', h3, h4⟩ := op_terms hSO mth mmn mte
  refine lv_aload_n hx hb dL_law_193 rfl (lv_at hl 1 rfl) ?_
  refine roVi (As := []) (rest := []) ⟨hx, hb, hml, hown, hts⟩ (zX3_terms l G cI _ h e0 a1 a2 a3 r0 a4 qs ts bs cn mo  h3) (cwV 0 hts gL_law_X3_terms rfl rfl rfl (by decide +kernel) ⟨Nat.le_of_ble_eq_true rfl, Nat.le_of_ble_eq_true rfl⟩) hK hP (hP.sub [0, 1, 2, 3, 4, 5, 6] rfl) rfl rfl rfl hl.1 rfl (Nat.le_of_ble_eq_true rfl) dL_law_194 ⟨Nat.le_trans (Nat.le_add_right _ _) hc, Nat.le_trans (Nat.le_add_right _ _) hs⟩ hS hA (fun H locs hP hz194 hS => ?_)
  refine W.widen (k := cells + 2) (n := slots + 6) (by omega) (by omega) ?_
  refine lv_aload_n hx hb dL_law_197 rfl (lv_at hl 2 rfl) ?_
  refine mcVi (As := []) (rest := [.int r]) (wr := [(h, .inr (3, [.ref e0, .ref r0])), (e0, .inr (0, [.ref a1, .ref a2, .ref a3, .int cn])), (a1, .inl (cI, 32, .inl qs)), (a2, .inl (cI, 33, .inl ts)), (a3, .inl (cI, 33, .inl bs)), (r0, .inr (2, [.ref a4])), (a4, .inl (cI, 201, .inl mo)), (ao, .inl (cJ, 1, .inr (.inl ol)))]) (wc := [(g4, .inr (4, [.int mth, .int (nI P), .int (nI Q0), .int mmn, .ref a5, .int mrs, .ref a6, .long mlt, .long mlb, .long mht, .long mhb])), (a5, .inl (cI, 64, .inl mte)), (a6, .inl (cI, 64, .inl mru))]) ⟨hx, hb, hml, hown, hts⟩ (zX4_terms l G cI _ g4 a5 a6 mth (nI P) (nI Q0) mmn mte mrs mru mlt mlb mht mhb  h4) (cwV 0 hts gL_law_X4_terms rfl rfl rfl (by decide +kernel) ⟨Nat.le_of_ble_eq_true rfl, Nat.le_of_ble_eq_true rfl⟩) hK hP hD [7, 8, 9] [0, 1, 2, 3, 4, 5, 6, 10] rfl rfl rfl (by decide) (by decide) (by decide) rfl rfl rfl hl.1 rfl (Nat.le_of_ble_eq_true rfl) dL_law_198 ⟨hc, hs⟩ hS hA (fun H locs hP hD hz198 hS => ?_)
  have hP : va_P G vwCl (LW cI cJ h e0 a1 a2 a3 r0 a4 g4 a5 a6 ao mo qs ts bs cn 0 (nI P) (nI Q0) mmn' mte' mrs mru mlt mlb mht mhb ol) H := hP.sub [0, 1, 2, 3, 4, 5, 6, 8, 9, 10, 7] rfl
  have hD : va_D A (LW cI cJ h e0 a1 a2 a3 r0 a4 g4 a5 a6 ao mo qs ts bs cn 0 (nI P) (nI Q0) mmn' mte' mrs mru mlt mlb mht mhb ol) := hD.sub [0, 1, 2, 3, 4, 5, 6, 8, 9, 10, 7] (by decide) rfl
  refine lv_icmp_eq (tgt := 680) hx hb dL_law_201 (by decide) (fun c9 => ?_) (fun c9 => absurd rfl c9)
  exact hk P Q0 qs ts bs cn 0 mmn' mte' mrs mru mlt mlb mht mhb ol _ _ _ hSO hP hD hS (lv_sub hl [0, 1, 2, 3, 4] rfl)
set_option maxHeartbeats 4000000 in
set_option maxRecDepth 100000 in
theorem law_3 {p : Program} {l : Launch} {e : Env} {s : State} {m : MethodId} {below : List Frame} {meth : Method} {c : Code} {Q : State → Prop} {A : Nat → Prop} {G : va_G} {cI cJ : ClassId} {b h e0 a1 a2 a3 r0 a4 g4 a5 a6 ao L cells slots : Nat} {xs : Nat → Int32} {mo : Nat → Int32} {i v1 v2 v3 v4 : Int32} (C : LC l p s m c b L xs A G cI cJ) (hV : LV L xs i v1 v2 v3 v4) (hR : ROk mo) (hc : cells + 2 ≤ 601024) (hs : slots + 6 ≤ 7293034) (hk : LK p l e s m below meth c Q A G cI cJ b h e0 a1 a2 a3 r0 a4 g4 a5 a6 ao mo i 680 (cells + 2) (slots + 6)) : LK p l e s m below meth c Q A G cI cJ b h e0 a1 a2 a3 r0 a4 g4 a5 a6 ao mo i 206 cells slots := by
  intro P Q0 qs ts bs cn mth mmn mte mrs mru mlt mlb mht mhb ol H locs ls hSO hP hD hS hl
  obtain ⟨hx, hb, hml, hown, hts, hX, hbl, hbA, hA, hK2, hl0, hT1, hT2, hT3, hZ⟩ := C
  obtain ⟨⟨hi1, ev1⟩, ⟨hi2, ev2⟩, ⟨hi3, ev3⟩, ⟨hi4, ev4⟩⟩ := hV
  have hK := hK2.K
  obtain ⟨r, mmn', mte', h3, h4⟩ := op_term hSO mth mmn v1 mte
  refine lv_aload_n hx hb dL_law_206 rfl (lv_at hl 1 rfl) ?_
  refine lv_aload_n hx hb dL_law_207 rfl (lv_at hl 0 rfl) ?_
  refine lv_iload hx hb dL_law_208 (lv_at hl 4 rfl) ?_
  refine lv_iconst (v := 1) hx hb dL_law_210 (by decide) ?_
  refine lv_iadd hx hb dL_law_211 ?_
  refine va_sld hx hb hX hbl hbA hS hi1 dL_law_212 ?_
  rw [ev1]
  refine roVi (As := [.int v1]) (rest := []) ⟨hx, hb, hml, hown, hts⟩ (zX3_term l G cI _ h e0 a1 a2 a3 r0 a4 qs ts bs cn mo v1 h3) (cwV 1 hts gL_law_X3_term rfl rfl rfl (by decide +kernel) ⟨Nat.le_of_ble_eq_true rfl, Nat.le_of_ble_eq_true rfl⟩) hK hP (hP.sub [0, 1, 2, 3, 4, 5, 6] rfl) rfl rfl rfl hl.1 rfl (Nat.le_of_ble_eq_true rfl) dL_law_213 ⟨Nat.le_trans (Nat.le_add_right _ _) hc, Nat.le_trans (Nat.le_add_right _ _) hs⟩ hS hA (fun H locs hP hz213 hS => ?_)
  refine W.widen (k := cells + 2) (n := slots + 6) (by omega) (by omega) ?_
  refine lv_aload_n hx hb dL_law_216 rfl (lv_at hl 2 rfl) ?_
  refine lv_aload_n hx hb dL_law_217 rfl (lv_at hl 0 rfl) ?_
  refine lv_iload hx hb dL_law_218 (lv_at hl 4 rfl) ?_
  refine lv_iconst (v := 1) hx hb dL_law_220 (by decide) ?_
  refine lv_iadd hx hb dL_law_221 ?_
  refine va_sld hx hb hX hbl hbA hS hi1 dL_law_222 ?_
  rw [ev1]
  refine mcVi (As := [.int v1]) (rest := [.int r]) (wr := [(h, .inr (3, [.ref e0, .ref r0])), (e0, .inr (0, [.ref a1, .ref a2, .ref a3, .int cn])), (a1, .inl (cI, 32, .inl qs)), (a2, .inl (cI, 33, .inl ts)), (a3, .inl (cI, 33, .inl bs)), (r0, .inr (2, [.ref a4])), (a4, .inl (cI, 201, .inl mo)), (ao, .inl (cJ, 1, .inr (.inl ol)))]) (wc := [(g4, .inr (4, [.int mth, .int (nI P), .int (nI Q0), .int mmn, .ref a5, .int mrs, .ref a6, .long mlt, .long mlb, .long mht, .long mhb])), (a5, .inl (cI, 64, .inl mte)), (a6, .inl (cI, 64, .inl mru))]) ⟨hx, hb, hml, hown, hts⟩ (zX4_term l G cI _ g4 a5 a6 mth (nI P) (nI Q0) mmn mte mrs mru mlt mlb mht mhb v1 h4) (cwV 1 hts gL_law_X4_term rfl rfl rfl (by decide +kernel) ⟨Nat.le_of_ble_eq_true rfl, Nat.le_of_ble_eq_true rfl⟩) hK hP hD [7, 8, 9] [0, 1, 2, 3, 4, 5, 6, 10] rfl rfl rfl (by decide) (by decide) (by decide) rfl rfl rfl hl.1 rfl (Nat.le_of_ble_eq_true rfl) dL_law_223 ⟨hc, hs⟩ hS hA (fun H locs hP hD hz223 hS => ?_)
  have hP : va_P G vwCl (LW cI cJ h e0 a1 a2 a3 r0 a4 g4 a5 a6 ao mo qs ts bs cn 0 (nI P) (nI Q0) mmn' mte' mrs mru mlt mlb mht mhb ol) H := hP.sub [0, 1, 2, 3, 4, 5, 6, 8, 9, 10, 7] rfl
  have hD : va_D A (LW cI cJ h e0 a1 a2 a3 r0 a4 g4 a5 a6 ao mo qs ts bs cn 0 (nI P) (nI Q0) mmn' mte' mrs mru mlt mlb mht mhb ol) := hD.sub [0, 1, 2, 3, 4, 5, 6, 8, 9, 10, 7] (by decide) rfl
  refine lv_icmp_eq (tgt := 680) hx hb dL_law_226 (by decide) (fun c9 => ?_) (fun c9 => absurd rfl c9)
  exact hk P Q0 qs ts bs cn 0 mmn' mte' mrs mru mlt mlb mht mhb ol _ _ _ hSO hP hD hS (lv_sub hl [0, 1, 2, 3, 4] rfl)
set_option maxHeartbeats 4000000 in
set_option maxRecDepth 100000 in
theorem law_4 {p : Program} {l : Launch} {e : Env} {s : State} {m : MethodId} {below : List Frame} {meth : Method} {c : Code} {Q : State → Prop} {A : Nat → Prop} {G : va_G} {cI cJ : ClassId} {b h e0 a1 a2 a3 r0 a4 g4 a5 a6 ao L cells slots : Nat} {xs : Nat → Int32} {mo : Nat → Int32} {i v1 v2 v3 v4 : Int32} (C : LC l p s m c b L xs A G cI cJ) (hV : LV L xs i v1 v2 v3 v4) (hR : ROk mo) (hc : cells + 2 ≤ 601024) (hs : slots + 6 ≤ 7293034) (hk : LK p l e s m below meth c Q A G cI cJ b h e0 a1 a2 a3 r0 a4 g4 a5 a6 ao mo i 680 (cells + 2) (slots + 6)) : LK p l e s m below meth c Q A G cI cJ b h e0 a1 a2 a3 r0 a4 g4 a5 a6 ao mo i 231 cells slots := by
  intro P Q0 qs ts bs cn mth mmn mte mrs mru mlt mlb mht mhb ol H locs ls hSO hP hD hS hl
  obtain ⟨hx, hb, hml, hown, hts, hX, hbl, hbA, hA, hK2, hl0, hT1, hT2, hT3, hZ⟩ := C
  obtain ⟨⟨hi1, ev1⟩, ⟨hi2, ev2⟩, ⟨hi3, ev3⟩, ⟨hi4, ev4⟩⟩ := hV
  have hK := hK2.K
  obtain ⟨r, mmn', mte', h3, h4⟩ := op_convergent hSO mth mmn v1 v2 mte
  refine lv_aload_n hx hb dL_law_231 rfl (lv_at hl 1 rfl) ?_
  refine lv_aload_n hx hb dL_law_232 rfl (lv_at hl 0 rfl) ?_
  refine lv_iload hx hb dL_law_233 (lv_at hl 4 rfl) ?_
  refine lv_iconst (v := 1) hx hb dL_law_235 (by decide) ?_
  refine lv_iadd hx hb dL_law_236 ?_
  refine va_sld hx hb hX hbl hbA hS hi1 dL_law_237 ?_
  rw [ev1]
  refine lv_aload_n hx hb dL_law_238 rfl (lv_at hl 0 rfl) ?_
  refine lv_iload hx hb dL_law_239 (lv_at hl 4 rfl) ?_
  refine lv_iconst (v := 2) hx hb dL_law_241 (by decide) ?_
  refine lv_iadd hx hb dL_law_242 ?_
  refine va_sld hx hb hX hbl hbA hS hi2 dL_law_243 ?_
  rw [ev2]
  refine roVi (As := [.int v1, .int v2]) (rest := []) ⟨hx, hb, hml, hown, hts⟩ (zX3_convergent l G cI _ h e0 a1 a2 a3 r0 a4 qs ts bs cn mo v1 v2 h3) (cwV 2 hts gL_law_X3_convergent rfl rfl rfl (by decide +kernel) ⟨Nat.le_of_ble_eq_true rfl, Nat.le_of_ble_eq_true rfl⟩) hK hP (hP.sub [0, 1, 2, 3, 4, 5, 6] rfl) rfl rfl rfl hl.1 rfl (Nat.le_of_ble_eq_true rfl) dL_law_244 ⟨Nat.le_trans (Nat.le_add_right _ _) hc, Nat.le_trans (Nat.le_add_right _ _) hs⟩ hS hA (fun H locs hP hz244 hS => ?_)
  refine W.widen (k := cells + 2) (n := slots + 6) (by omega) (by omega) ?_
  refine lv_aload_n hx hb dL_law_247 rfl (lv_at hl 2 rfl) ?_
  refine lv_aload_n hx hb dL_law_248 rfl (lv_at hl 0 rfl) ?_
  refine lv_iload hx hb dL_law_249 (lv_at hl 4 rfl) ?_
  refine lv_iconst (v := 1) hx hb dL_law_251 (by decide) ?_
  refine lv_iadd hx hb dL_law_252 ?_
  refine va_sld hx hb hX hbl hbA hS hi1 dL_law_253 ?_
  rw [ev1]
  refine lv_aload_n hx hb dL_law_254 rfl (lv_at hl 0 rfl) ?_
  refine lv_iload hx hb dL_law_255 (lv_at hl 4 rfl) ?_
  refine lv_iconst (v := 2) hx hb dL_law_257 (by decide) ?_
  refine lv_iadd hx hb dL_law_258 ?_
  refine va_sld hx hb hX hbl hbA hS hi2 dL_law_259 ?_
  rw [ev2]
  refine mcVi (As := [.int v1, .int v2]) (rest := [.int r]) (wr := [(h, .inr (3, [.ref e0, .ref r0])), (e0, .inr (0, [.ref a1, .ref a2, .ref a3, .int cn])), (a1, .inl (cI, 32, .inl qs)), (a2, .inl (cI, 33, .inl ts)), (a3, .inl (cI, 33, .inl bs)), (r0, .inr (2, [.ref a4])), (a4, .inl (cI, 201, .inl mo)), (ao, .inl (cJ, 1, .inr (.inl ol)))]) (wc := [(g4, .inr (4, [.int mth, .int (nI P), .int (nI Q0), .int mmn, .ref a5, .int mrs, .ref a6, .long mlt, .long mlb, .long mht, .long mhb])), (a5, .inl (cI, 64, .inl mte)), (a6, .inl (cI, 64, .inl mru))]) ⟨hx, hb, hml, hown, hts⟩ (zX4_convergent l G cI _ g4 a5 a6 mth (nI P) (nI Q0) mmn mte mrs mru mlt mlb mht mhb v1 v2 h4) (cwV 2 hts gL_law_X4_convergent rfl rfl rfl (by decide +kernel) ⟨Nat.le_of_ble_eq_true rfl, Nat.le_of_ble_eq_true rfl⟩) hK hP hD [7, 8, 9] [0, 1, 2, 3, 4, 5, 6, 10] rfl rfl rfl (by decide) (by decide) (by decide) rfl rfl rfl hl.1 rfl (Nat.le_of_ble_eq_true rfl) dL_law_260 ⟨hc, hs⟩ hS hA (fun H locs hP hD hz260 hS => ?_)
  have hP : va_P G vwCl (LW cI cJ h e0 a1 a2 a3 r0 a4 g4 a5 a6 ao mo qs ts bs cn 0 (nI P) (nI Q0) mmn' mte' mrs mru mlt mlb mht mhb ol) H := hP.sub [0, 1, 2, 3, 4, 5, 6, 8, 9, 10, 7] rfl
  have hD : va_D A (LW cI cJ h e0 a1 a2 a3 r0 a4 g4 a5 a6 ao mo qs ts bs cn 0 (nI P) (nI Q0) mmn' mte' mrs mru mlt mlb mht mhb ol) := hD.sub [0, 1, 2, 3, 4, 5, 6, 8, 9, 10, 7] (by decide) rfl
  refine lv_icmp_eq (tgt := 680) hx hb dL_law_263 (by decide) (fun c9 => ?_) (fun c9 => absurd rfl c9)
  exact hk P Q0 qs ts bs cn 0 mmn' mte' mrs mru mlt mlb mht mhb ol _ _ _ hSO hP hD hS (lv_sub hl [0, 1, 2, 3, 4] rfl)
set_option maxHeartbeats 4000000 in
set_option maxRecDepth 100000 in
theorem law_5 {p : Program} {l : Launch} {e : Env} {s : State} {m : MethodId} {below : List Frame} {meth : Method} {c : Code} {Q : State → Prop} {A : Nat → Prop} {G : va_G} {cI cJ : ClassId} {b h e0 a1 a2 a3 r0 a4 g4 a5 a6 ao L cells slots : Nat} {xs : Nat → Int32} {mo : Nat → Int32} {i v1 v2 v3 v4 : Int32} (C : LC l p s m c b L xs A G cI cJ) (hV : LV L xs i v1 v2 v3 v4) (hR : ROk mo) (hc : cells + 2 ≤ 601024) (hs : slots + 6 ≤ 7293034) (hk : LK p l e s m below meth c Q A G cI cJ b h e0 a1 a2 a3 r0 a4 g4 a5 a6 ao mo i 680 (cells + 2) (slots + 6)) : LK p l e s m below meth c Q A G cI cJ b h e0 a1 a2 a3 r0 a4 g4 a5 a6 ao mo i 268 cells slots := by
  intro P Q0 qs ts bs cn mth mmn mte mrs mru mlt mlb mht mhb ol H locs ls hSO hP hD hS hl
  obtain ⟨hx, hb, hml, hown, hts, hX, hbl, hbA, hA, hK2, hl0, hT1, hT2, hT3, hZ⟩ := C
  obtain ⟨⟨hi1, ev1⟩, ⟨hi2, ev2⟩, ⟨hi3, ev3⟩, ⟨hi4, ev4⟩⟩ := hV
  have hK := hK2.K
  obtain ⟨r, mrs', mru', n1, n2, n3, n4, h3, h4⟩ := op_way hSO mth mrs v1 mru mlt mlb mht mhb
  refine lv_aload_n hx hb dL_law_268 rfl (lv_at hl 1 rfl) ?_
  refine lv_aload_n hx hb dL_law_269 rfl (lv_at hl 0 rfl) ?_
  refine lv_iload hx hb dL_law_270 (lv_at hl 4 rfl) ?_
  refine lv_iconst (v := 1) hx hb dL_law_272 (by decide) ?_
  refine lv_iadd hx hb dL_law_273 ?_
  refine va_sld hx hb hX hbl hbA hS hi1 dL_law_274 ?_
  rw [ev1]
  refine roVi (As := [.int v1]) (rest := []) ⟨hx, hb, hml, hown, hts⟩ (zX3_way l G cI _ h e0 a1 a2 a3 r0 a4 qs ts bs cn mo v1 h3) (cwV 1 hts gL_law_X3_way rfl rfl rfl (by decide +kernel) ⟨Nat.le_of_ble_eq_true rfl, Nat.le_of_ble_eq_true rfl⟩) hK hP (hP.sub [0, 1, 2, 3, 4, 5, 6] rfl) rfl rfl rfl hl.1 rfl (Nat.le_of_ble_eq_true rfl) dL_law_275 ⟨Nat.le_trans (Nat.le_add_right _ _) hc, Nat.le_trans (Nat.le_add_right _ _) hs⟩ hS hA (fun H locs hP hz275 hS => ?_)
  refine W.widen (k := cells + 2) (n := slots + 6) (by omega) (by omega) ?_
  refine lv_aload_n hx hb dL_law_278 rfl (lv_at hl 2 rfl) ?_
  refine lv_aload_n hx hb dL_law_279 rfl (lv_at hl 0 rfl) ?_
  refine lv_iload hx hb dL_law_280 (lv_at hl 4 rfl) ?_
  refine lv_iconst (v := 1) hx hb dL_law_282 (by decide) ?_
  refine lv_iadd hx hb dL_law_283 ?_
  refine va_sld hx hb hX hbl hbA hS hi1 dL_law_284 ?_
  rw [ev1]
  refine mcVi (As := [.int v1]) (rest := [.int r]) (wr := [(h, .inr (3, [.ref e0, .ref r0])), (e0, .inr (0, [.ref a1, .ref a2, .ref a3, .int cn])), (a1, .inl (cI, 32, .inl qs)), (a2, .inl (cI, 33, .inl ts)), (a3, .inl (cI, 33, .inl bs)), (r0, .inr (2, [.ref a4])), (a4, .inl (cI, 201, .inl mo)), (ao, .inl (cJ, 1, .inr (.inl ol)))]) (wc := [(g4, .inr (4, [.int mth, .int (nI P), .int (nI Q0), .int mmn, .ref a5, .int mrs, .ref a6, .long mlt, .long mlb, .long mht, .long mhb])), (a5, .inl (cI, 64, .inl mte)), (a6, .inl (cI, 64, .inl mru))]) ⟨hx, hb, hml, hown, hts⟩ (zX4_way l G cI _ g4 a5 a6 mth (nI P) (nI Q0) mmn mte mrs mru mlt mlb mht mhb v1 h4) (cwV 1 hts gL_law_X4_way rfl rfl rfl (by decide +kernel) ⟨Nat.le_of_ble_eq_true rfl, Nat.le_of_ble_eq_true rfl⟩) hK hP hD [7, 8, 9] [0, 1, 2, 3, 4, 5, 6, 10] rfl rfl rfl (by decide) (by decide) (by decide) rfl rfl rfl hl.1 rfl (Nat.le_of_ble_eq_true rfl) dL_law_285 ⟨hc, hs⟩ hS hA (fun H locs hP hD hz285 hS => ?_)
  have hP : va_P G vwCl (LW cI cJ h e0 a1 a2 a3 r0 a4 g4 a5 a6 ao mo qs ts bs cn 0 (nI P) (nI Q0) mmn mte mrs' mru' n1 n2 n3 n4 ol) H := hP.sub [0, 1, 2, 3, 4, 5, 6, 8, 9, 10, 7] rfl
  have hD : va_D A (LW cI cJ h e0 a1 a2 a3 r0 a4 g4 a5 a6 ao mo qs ts bs cn 0 (nI P) (nI Q0) mmn mte mrs' mru' n1 n2 n3 n4 ol) := hD.sub [0, 1, 2, 3, 4, 5, 6, 8, 9, 10, 7] (by decide) rfl
  refine lv_icmp_eq (tgt := 680) hx hb dL_law_288 (by decide) (fun c9 => ?_) (fun c9 => absurd rfl c9)
  exact hk P Q0 qs ts bs cn 0 mmn mte mrs' mru' n1 n2 n3 n4 ol _ _ _ hSO hP hD hS (lv_sub hl [0, 1, 2, 3, 4] rfl)
set_option maxHeartbeats 4000000 in
set_option maxRecDepth 100000 in
theorem law_6 {p : Program} {l : Launch} {e : Env} {s : State} {m : MethodId} {below : List Frame} {meth : Method} {c : Code} {Q : State → Prop} {A : Nat → Prop} {G : va_G} {cI cJ : ClassId} {b h e0 a1 a2 a3 r0 a4 g4 a5 a6 ao L cells slots : Nat} {xs : Nat → Int32} {mo : Nat → Int32} {i v1 v2 v3 v4 : Int32} (C : LC l p s m c b L xs A G cI cJ) (hV : LV L xs i v1 v2 v3 v4) (hR : ROk mo) (hc : cells + 2 ≤ 601024) (hs : slots + 6 ≤ 7293034) (hk : LK p l e s m below meth c Q A G cI cJ b h e0 a1 a2 a3 r0 a4 g4 a5 a6 ao mo i 680 (cells + 2) (slots + 6)) : LK p l e s m below meth c Q A G cI cJ b h e0 a1 a2 a3 r0 a4 g4 a5 a6 ao mo i 293 cells slots := by
  intro P Q0 qs ts bs cn mth mmn mte mrs mru mlt mlb mht mhb ol H locs ls hSO hP hD hS hl
  obtain ⟨hx, hb, hml, hown, hts, hX, hbl, hbA, hA, hK2, hl0, hT1, hT2, hT3, hZ⟩ := C
  obtain ⟨⟨hi1, ev1⟩, ⟨hi2, ev2⟩, ⟨hi3, ev3⟩, ⟨hi4, ev4⟩⟩ := hV
  have hK := hK2.K
  obtain ⟨r, mrs', mru', n1, n2, n3, n4, h3, h4⟩ := op_run hSO mth mrs v1 mru mlt mlb mht mhb
  refine lv_aload_n hx hb dL_law_293 rfl (lv_at hl 1 rfl) ?_
  refine lv_aload_n hx hb dL_law_294 rfl (lv_at hl 0 rfl) ?_
  refine lv_iload hx hb dL_law_295 (lv_at hl 4 rfl) ?_
  refine lv_iconst (v := 1) hx hb dL_law_297 (by decide) ?_
  refine lv_iadd hx hb dL_law_298 ?_
  refine va_sld hx hb hX hbl hbA hS hi1 dL_law_299 ?_
  rw [ev1]
  refine roVi (As := [.int v1]) (rest := []) ⟨hx, hb, hml, hown, hts⟩ (zX3_run l G cI _ h e0 a1 a2 a3 r0 a4 qs ts bs cn mo v1 h3) (cwV 1 hts gL_law_X3_run rfl rfl rfl (by decide +kernel) ⟨Nat.le_of_ble_eq_true rfl, Nat.le_of_ble_eq_true rfl⟩) hK hP (hP.sub [0, 1, 2, 3, 4, 5, 6] rfl) rfl rfl rfl hl.1 rfl (Nat.le_of_ble_eq_true rfl) dL_law_300 ⟨Nat.le_trans (Nat.le_add_right _ _) hc, Nat.le_trans (Nat.le_add_right _ _) hs⟩ hS hA (fun H locs hP hz300 hS => ?_)
  refine W.widen (k := cells + 2) (n := slots + 6) (by omega) (by omega) ?_
  refine lv_aload_n hx hb dL_law_303 rfl (lv_at hl 2 rfl) ?_
  refine lv_aload_n hx hb dL_law_304 rfl (lv_at hl 0 rfl) ?_
  refine lv_iload hx hb dL_law_305 (lv_at hl 4 rfl) ?_
  refine lv_iconst (v := 1) hx hb dL_law_307 (by decide) ?_
  refine lv_iadd hx hb dL_law_308 ?_
  refine va_sld hx hb hX hbl hbA hS hi1 dL_law_309 ?_
  rw [ev1]
  refine mcVi (As := [.int v1]) (rest := [.int r]) (wr := [(h, .inr (3, [.ref e0, .ref r0])), (e0, .inr (0, [.ref a1, .ref a2, .ref a3, .int cn])), (a1, .inl (cI, 32, .inl qs)), (a2, .inl (cI, 33, .inl ts)), (a3, .inl (cI, 33, .inl bs)), (r0, .inr (2, [.ref a4])), (a4, .inl (cI, 201, .inl mo)), (ao, .inl (cJ, 1, .inr (.inl ol)))]) (wc := [(g4, .inr (4, [.int mth, .int (nI P), .int (nI Q0), .int mmn, .ref a5, .int mrs, .ref a6, .long mlt, .long mlb, .long mht, .long mhb])), (a5, .inl (cI, 64, .inl mte)), (a6, .inl (cI, 64, .inl mru))]) ⟨hx, hb, hml, hown, hts⟩ (zX4_run l G cI _ g4 a5 a6 mth (nI P) (nI Q0) mmn mte mrs mru mlt mlb mht mhb v1 h4) (cwV 1 hts gL_law_X4_run rfl rfl rfl (by decide +kernel) ⟨Nat.le_of_ble_eq_true rfl, Nat.le_of_ble_eq_true rfl⟩) hK hP hD [7, 8, 9] [0, 1, 2, 3, 4, 5, 6, 10] rfl rfl rfl (by decide) (by decide) (by decide) rfl rfl rfl hl.1 rfl (Nat.le_of_ble_eq_true rfl) dL_law_310 ⟨hc, hs⟩ hS hA (fun H locs hP hD hz310 hS => ?_)
  have hP : va_P G vwCl (LW cI cJ h e0 a1 a2 a3 r0 a4 g4 a5 a6 ao mo qs ts bs cn 0 (nI P) (nI Q0) mmn mte mrs' mru' n1 n2 n3 n4 ol) H := hP.sub [0, 1, 2, 3, 4, 5, 6, 8, 9, 10, 7] rfl
  have hD : va_D A (LW cI cJ h e0 a1 a2 a3 r0 a4 g4 a5 a6 ao mo qs ts bs cn 0 (nI P) (nI Q0) mmn mte mrs' mru' n1 n2 n3 n4 ol) := hD.sub [0, 1, 2, 3, 4, 5, 6, 8, 9, 10, 7] (by decide) rfl
  refine lv_icmp_eq (tgt := 680) hx hb dL_law_313 (by decide) (fun c9 => ?_) (fun c9 => absurd rfl c9)
  exact hk P Q0 qs ts bs cn 0 mmn mte mrs' mru' n1 n2 n3 n4 ol _ _ _ hSO hP hD hS (lv_sub hl [0, 1, 2, 3, 4] rfl)
set_option maxHeartbeats 4000000 in
set_option maxRecDepth 100000 in
theorem law_7 {p : Program} {l : Launch} {e : Env} {s : State} {m : MethodId} {below : List Frame} {meth : Method} {c : Code} {Q : State → Prop} {A : Nat → Prop} {G : va_G} {cI cJ : ClassId} {b h e0 a1 a2 a3 r0 a4 g4 a5 a6 ao L cells slots : Nat} {xs : Nat → Int32} {mo : Nat → Int32} {i v1 v2 v3 v4 : Int32} (C : LC l p s m c b L xs A G cI cJ) (hV : LV L xs i v1 v2 v3 v4) (hR : ROk mo) (hc : cells + 2 ≤ 601024) (hs : slots + 6 ≤ 7293034) (hk : LK p l e s m below meth c Q A G cI cJ b h e0 a1 a2 a3 r0 a4 g4 a5 a6 ao mo i 680 (cells + 2) (slots + 6)) : LK p l e s m below meth c Q A G cI cJ b h e0 a1 a2 a3 r0 a4 g4 a5 a6 ao mo i 318 cells slots := by
  intro P Q0 qs ts bs cn mth mmn mte mrs mru mlt mlb mht mhb ol H locs ls hSO hP hD hS hl
  obtain ⟨hx, hb, hml, hown, hts, hX, hbl, hbA, hA, hK2, hl0, hT1, hT2, hT3, hZ⟩ := C
  obtain ⟨⟨hi1, ev1⟩, ⟨hi2, ev2⟩, ⟨hi3, ev3⟩, ⟨hi4, ev4⟩⟩ := hV
  have hK := hK2.K
  obtain ⟨r, P', Q', qs', ts', bs', cn', mrs', mru', n1, n2, n3, n4, h3, hSO', h4⟩ := op_go hSO mth mrs v1 v2 mru mlt mlb mht mhb
  refine lv_aload_n hx hb dL_law_318 rfl (lv_at hl 1 rfl) ?_
  refine lv_aload_n hx hb dL_law_319 rfl (lv_at hl 0 rfl) ?_
  refine lv_iload hx hb dL_law_320 (lv_at hl 4 rfl) ?_
  refine lv_iconst (v := 1) hx hb dL_law_322 (by decide) ?_
  refine lv_iadd hx hb dL_law_323 ?_
  refine va_sld hx hb hX hbl hbA hS hi1 dL_law_324 ?_
  rw [ev1]
  refine lv_aload_n hx hb dL_law_325 rfl (lv_at hl 0 rfl) ?_
  refine lv_iload hx hb dL_law_326 (lv_at hl 4 rfl) ?_
  refine lv_iconst (v := 2) hx hb dL_law_328 (by decide) ?_
  refine lv_iadd hx hb dL_law_329 ?_
  refine va_sld hx hb hX hbl hbA hS hi2 dL_law_330 ?_
  rw [ev2]
  refine mcVi (As := [.int v1, .int v2]) (rest := []) (wr := [(g4, .inr (4, [.int mth, .int (nI P), .int (nI Q0), .int mmn, .ref a5, .int mrs, .ref a6, .long mlt, .long mlb, .long mht, .long mhb])), (a5, .inl (cI, 64, .inl mte)), (a6, .inl (cI, 64, .inl mru)), (ao, .inl (cJ, 1, .inr (.inl ol)))]) (wc := [(h, .inr (3, [.ref e0, .ref r0])), (e0, .inr (0, [.ref a1, .ref a2, .ref a3, .int cn])), (a1, .inl (cI, 32, .inl qs)), (a2, .inl (cI, 33, .inl ts)), (a3, .inl (cI, 33, .inl bs)), (r0, .inr (2, [.ref a4])), (a4, .inl (cI, 201, .inl mo))]) ⟨hx, hb, hml, hown, hts⟩ (zX3_go l G cI _ h e0 a1 a2 a3 r0 a4 qs ts bs cn mo v1 v2 h3) (cwV 2 hts gL_law_X3_go rfl rfl rfl (by decide +kernel) ⟨Nat.le_of_ble_eq_true rfl, Nat.le_of_ble_eq_true rfl⟩) hK hP hD [0, 1, 2, 3, 4, 5, 6] [7, 8, 9, 10] rfl rfl rfl (by decide) (by decide) (by decide) rfl rfl rfl hl.1 rfl (Nat.le_of_ble_eq_true rfl) dL_law_331 ⟨Nat.le_trans (Nat.add_le_add_left (show 1 ≤ 2 by decide) _) hc, Nat.le_trans (Nat.add_le_add_left (show 2 ≤ 6 by decide) _) hs⟩ hS hA (fun H locs hP hD hz331 hS => ?_)
  have hP : va_P G vwCl (LW cI cJ h e0 a1 a2 a3 r0 a4 g4 a5 a6 ao mo qs' ts' bs' cn' mth (nI P) (nI Q0) mmn mte mrs mru mlt mlb mht mhb ol) H := hP.sub [4, 5, 6, 7, 8, 9, 10, 0, 1, 2, 3] rfl
  have hD : va_D A (LW cI cJ h e0 a1 a2 a3 r0 a4 g4 a5 a6 ao mo qs' ts' bs' cn' mth (nI P) (nI Q0) mmn mte mrs mru mlt mlb mht mhb ol) := hD.sub [4, 5, 6, 7, 8, 9, 10, 0, 1, 2, 3] (by decide) rfl
  refine W.widen (k := cells + 2) (n := slots + 6) (by omega) (by omega) ?_
  refine lv_aload_n hx hb dL_law_334 rfl (lv_at hl 2 rfl) ?_
  refine lv_aload_n hx hb dL_law_335 rfl (lv_at hl 0 rfl) ?_
  refine lv_iload hx hb dL_law_336 (lv_at hl 4 rfl) ?_
  refine lv_iconst (v := 1) hx hb dL_law_338 (by decide) ?_
  refine lv_iadd hx hb dL_law_339 ?_
  refine va_sld hx hb hX hbl hbA hS hi1 dL_law_340 ?_
  rw [ev1]
  refine lv_aload_n hx hb dL_law_341 rfl (lv_at hl 0 rfl) ?_
  refine lv_iload hx hb dL_law_342 (lv_at hl 4 rfl) ?_
  refine lv_iconst (v := 2) hx hb dL_law_344 (by decide) ?_
  refine lv_iadd hx hb dL_law_345 ?_
  refine va_sld hx hb hX hbl hbA hS hi2 dL_law_346 ?_
  rw [ev2]
  refine mcVi (As := [.int v1, .int v2]) (rest := [.int r]) (wr := [(h, .inr (3, [.ref e0, .ref r0])), (e0, .inr (0, [.ref a1, .ref a2, .ref a3, .int cn'])), (a1, .inl (cI, 32, .inl qs')), (a2, .inl (cI, 33, .inl ts')), (a3, .inl (cI, 33, .inl bs')), (r0, .inr (2, [.ref a4])), (a4, .inl (cI, 201, .inl mo)), (ao, .inl (cJ, 1, .inr (.inl ol)))]) (wc := [(g4, .inr (4, [.int mth, .int (nI P), .int (nI Q0), .int mmn, .ref a5, .int mrs, .ref a6, .long mlt, .long mlb, .long mht, .long mhb])), (a5, .inl (cI, 64, .inl mte)), (a6, .inl (cI, 64, .inl mru))]) ⟨hx, hb, hml, hown, hts⟩ (zX4_go l G cI _ g4 a5 a6 mth (nI P) (nI Q0) mmn mte mrs mru mlt mlb mht mhb v1 v2 h4) (cwV 2 hts gL_law_X4_go rfl rfl rfl (by decide +kernel) ⟨Nat.le_of_ble_eq_true rfl, Nat.le_of_ble_eq_true rfl⟩) hK hP hD [7, 8, 9] [0, 1, 2, 3, 4, 5, 6, 10] rfl rfl rfl (by decide) (by decide) (by decide) rfl rfl rfl hl.1 rfl (Nat.le_of_ble_eq_true rfl) dL_law_347 ⟨hc, hs⟩ hS hA (fun H locs hP hD hz347 hS => ?_)
  have hP : va_P G vwCl (LW cI cJ h e0 a1 a2 a3 r0 a4 g4 a5 a6 ao mo qs' ts' bs' cn' 0 (nI P') (nI Q') mmn mte mrs' mru' n1 n2 n3 n4 ol) H := hP.sub [0, 1, 2, 3, 4, 5, 6, 8, 9, 10, 7] rfl
  have hD : va_D A (LW cI cJ h e0 a1 a2 a3 r0 a4 g4 a5 a6 ao mo qs' ts' bs' cn' 0 (nI P') (nI Q') mmn mte mrs' mru' n1 n2 n3 n4 ol) := hD.sub [0, 1, 2, 3, 4, 5, 6, 8, 9, 10, 7] (by decide) rfl
  refine lv_icmp_eq (tgt := 680) hx hb dL_law_350 (by decide) (fun c9 => ?_) (fun c9 => absurd rfl c9)
  exact hk P' Q' qs' ts' bs' cn' 0 mmn mte mrs' mru' n1 n2 n3 n4 ol _ _ _ hSO' hP hD hS (lv_sub hl [0, 1, 2, 3, 4] rfl)
set_option maxHeartbeats 4000000 in
set_option maxRecDepth 100000 in
theorem law_8 {p : Program} {l : Launch} {e : Env} {s : State} {m : MethodId} {below : List Frame} {meth : Method} {c : Code} {Q : State → Prop} {A : Nat → Prop} {G : va_G} {cI cJ : ClassId} {b h e0 a1 a2 a3 r0 a4 g4 a5 a6 ao L cells slots : Nat} {xs : Nat → Int32} {mo : Nat → Int32} {i v1 v2 v3 v4 : Int32} (C : LC l p s m c b L xs A G cI cJ) (hV : LV L xs i v1 v2 v3 v4) (hR : ROk mo) (hc : cells + 2 ≤ 601024) (hs : slots + 6 ≤ 7293034) (hk : LK p l e s m below meth c Q A G cI cJ b h e0 a1 a2 a3 r0 a4 g4 a5 a6 ao mo i 680 (cells + 2) (slots + 6)) : LK p l e s m below meth c Q A G cI cJ b h e0 a1 a2 a3 r0 a4 g4 a5 a6 ao mo i 355 cells slots := by
  intro P Q0 qs ts bs cn mth mmn mte mrs mru mlt mlb mht mhb ol H locs ls hSO hP hD hS hl
  obtain ⟨hx, hb, hml, hown, hts, hX, hbl, hbA, hA, hK2, hl0, hT1, hT2, hT3, hZ⟩ := C
  obtain ⟨⟨hi1, ev1⟩, ⟨hi2, ev2⟩, ⟨hi3, ev3⟩, ⟨hi4, ev4⟩⟩ := hV
  have hK := hK2.K
  obtain ⟨r, P', Q', qs', ts', bs', cn', mrs', mru', n1, n2, n3, n4, h3, hSO', h4⟩ := op_up hSO mth mrs mru mlt mlb mht mhb
  refine lv_aload_n hx hb dL_law_355 rfl (lv_at hl 1 rfl) ?_
  refine mcVi (As := []) (rest := []) (wr := [(g4, .inr (4, [.int mth, .int (nI P), .int (nI Q0), .int mmn, .ref a5, .int mrs, .ref a6, .long mlt, .long mlb, .long mht, .long mhb])), (a5, .inl (cI, 64, .inl mte)), (a6, .inl (cI, 64, .inl mru)), (ao, .inl (cJ, 1, .inr (.inl ol)))]) (wc := [(h, .inr (3, [.ref e0, .ref r0])), (e0, .inr (0, [.ref a1, .ref a2, .ref a3, .int cn])), (a1, .inl (cI, 32, .inl qs)), (a2, .inl (cI, 33, .inl ts)), (a3, .inl (cI, 33, .inl bs)), (r0, .inr (2, [.ref a4])), (a4, .inl (cI, 201, .inl mo))]) ⟨hx, hb, hml, hown, hts⟩ (zX3_up l G cI _ h e0 a1 a2 a3 r0 a4 qs ts bs cn mo  h3) (cwV 0 hts gL_law_X3_up rfl rfl rfl (by decide +kernel) ⟨Nat.le_of_ble_eq_true rfl, Nat.le_of_ble_eq_true rfl⟩) hK hP hD [0, 1, 2, 3, 4, 5, 6] [7, 8, 9, 10] rfl rfl rfl (by decide) (by decide) (by decide) rfl rfl rfl hl.1 rfl (Nat.le_of_ble_eq_true rfl) dL_law_356 ⟨Nat.le_trans (Nat.add_le_add_left (show 0 ≤ 2 by decide) _) hc, Nat.le_trans (Nat.add_le_add_left (show 0 ≤ 6 by decide) _) hs⟩ hS hA (fun H locs hP hD hz356 hS => ?_)
  have hP : va_P G vwCl (LW cI cJ h e0 a1 a2 a3 r0 a4 g4 a5 a6 ao mo qs' ts' bs' cn' mth (nI P) (nI Q0) mmn mte mrs mru mlt mlb mht mhb ol) H := hP.sub [4, 5, 6, 7, 8, 9, 10, 0, 1, 2, 3] rfl
  have hD : va_D A (LW cI cJ h e0 a1 a2 a3 r0 a4 g4 a5 a6 ao mo qs' ts' bs' cn' mth (nI P) (nI Q0) mmn mte mrs mru mlt mlb mht mhb ol) := hD.sub [4, 5, 6, 7, 8, 9, 10, 0, 1, 2, 3] (by decide) rfl
  refine W.widen (k := cells + 2) (n := slots + 6) (by omega) (by omega) ?_
  refine lv_aload_n hx hb dL_law_359 rfl (lv_at hl 2 rfl) ?_
  refine mcVi (As := []) (rest := [.int r]) (wr := [(h, .inr (3, [.ref e0, .ref r0])), (e0, .inr (0, [.ref a1, .ref a2, .ref a3, .int cn'])), (a1, .inl (cI, 32, .inl qs')), (a2, .inl (cI, 33, .inl ts')), (a3, .inl (cI, 33, .inl bs')), (r0, .inr (2, [.ref a4])), (a4, .inl (cI, 201, .inl mo)), (ao, .inl (cJ, 1, .inr (.inl ol)))]) (wc := [(g4, .inr (4, [.int mth, .int (nI P), .int (nI Q0), .int mmn, .ref a5, .int mrs, .ref a6, .long mlt, .long mlb, .long mht, .long mhb])), (a5, .inl (cI, 64, .inl mte)), (a6, .inl (cI, 64, .inl mru))]) ⟨hx, hb, hml, hown, hts⟩ (zX4_up l G cI _ g4 a5 a6 mth (nI P) (nI Q0) mmn mte mrs mru mlt mlb mht mhb  h4) (cwV 0 hts gL_law_X4_up rfl rfl rfl (by decide +kernel) ⟨Nat.le_of_ble_eq_true rfl, Nat.le_of_ble_eq_true rfl⟩) hK hP hD [7, 8, 9] [0, 1, 2, 3, 4, 5, 6, 10] rfl rfl rfl (by decide) (by decide) (by decide) rfl rfl rfl hl.1 rfl (Nat.le_of_ble_eq_true rfl) dL_law_360 ⟨hc, hs⟩ hS hA (fun H locs hP hD hz360 hS => ?_)
  have hP : va_P G vwCl (LW cI cJ h e0 a1 a2 a3 r0 a4 g4 a5 a6 ao mo qs' ts' bs' cn' 0 (nI P') (nI Q') mmn mte mrs' mru' n1 n2 n3 n4 ol) H := hP.sub [0, 1, 2, 3, 4, 5, 6, 8, 9, 10, 7] rfl
  have hD : va_D A (LW cI cJ h e0 a1 a2 a3 r0 a4 g4 a5 a6 ao mo qs' ts' bs' cn' 0 (nI P') (nI Q') mmn mte mrs' mru' n1 n2 n3 n4 ol) := hD.sub [0, 1, 2, 3, 4, 5, 6, 8, 9, 10, 7] (by decide) rfl
  refine lv_icmp_eq (tgt := 680) hx hb dL_law_363 (by decide) (fun c9 => ?_) (fun c9 => absurd rfl c9)
  exact hk P' Q' qs' ts' bs' cn' 0 mmn mte mrs' mru' n1 n2 n3 n4 ol _ _ _ hSO' hP hD hS (lv_sub hl [0, 1, 2, 3, 4] rfl)
set_option maxHeartbeats 4000000 in
set_option maxRecDepth 100000 in
theorem law_11 {p : Program} {l : Launch} {e : Env} {s : State} {m : MethodId} {below : List Frame} {meth : Method} {c : Code} {Q : State → Prop} {A : Nat → Prop} {G : va_G} {cI cJ : ClassId} {b h e0 a1 a2 a3 r0 a4 g4 a5 a6 ao L cells slots : Nat} {xs : Nat → Int32} {mo : Nat → Int32} {i v1 v2 v3 v4 : Int32} (C : LC l p s m c b L xs A G cI cJ) (hV : LV L xs i v1 v2 v3 v4) (hR : ROk mo) (hc : cells + 2 ≤ 601024) (hs : slots + 6 ≤ 7293034) (hk : LK p l e s m below meth c Q A G cI cJ b h e0 a1 a2 a3 r0 a4 g4 a5 a6 ao mo i 680 (cells + 2) (slots + 6)) : LK p l e s m below meth c Q A G cI cJ b h e0 a1 a2 a3 r0 a4 g4 a5 a6 ao mo i 540 cells slots := by
  intro P Q0 qs ts bs cn mth mmn mte mrs mru mlt mlb mht mhb ol H locs ls hSO hP hD hS hl
  obtain ⟨hx, hb, hml, hown, hts, hX, hbl, hbA, hA, hK2, hl0, hT1, hT2, hT3, hZ⟩ := C
  obtain ⟨⟨hi1, ev1⟩, ⟨hi2, ev2⟩, ⟨hi3, ev3⟩, ⟨hi4, ev4⟩⟩ := hV
  have hK := hK2.K
  obtain ⟨r, h3, h4⟩ := op_row hR mth v1
  refine lv_aload_n hx hb dL_law_540 rfl (lv_at hl 1 rfl) ?_
  refine lv_aload_n hx hb dL_law_541 rfl (lv_at hl 0 rfl) ?_
  refine lv_iload hx hb dL_law_542 (lv_at hl 4 rfl) ?_
  refine lv_iconst (v := 1) hx hb dL_law_544 (by decide) ?_
  refine lv_iadd hx hb dL_law_545 ?_
  refine va_sld hx hb hX hbl hbA hS hi1 dL_law_546 ?_
  rw [ev1]
  refine roVi (As := [.int v1]) (rest := []) ⟨hx, hb, hml, hown, hts⟩ (zX3_row l G cI _ h e0 a1 a2 a3 r0 a4 qs ts bs cn mo v1 h3) (cwV 1 hts gL_law_X3_row rfl rfl rfl (by decide +kernel) ⟨Nat.le_of_ble_eq_true rfl, Nat.le_of_ble_eq_true rfl⟩) hK hP (hP.sub [0, 1, 2, 3, 4, 5, 6] rfl) rfl rfl rfl hl.1 rfl (Nat.le_of_ble_eq_true rfl) dL_law_547 ⟨Nat.le_trans (Nat.le_add_right _ _) hc, Nat.le_trans (Nat.le_add_right _ _) hs⟩ hS hA (fun H locs hP hz547 hS => ?_)
  refine W.widen (k := cells + 2) (n := slots + 6) (by omega) (by omega) ?_
  refine lv_aload_n hx hb dL_law_550 rfl (lv_at hl 2 rfl) ?_
  refine lv_aload_n hx hb dL_law_551 rfl (lv_at hl 0 rfl) ?_
  refine lv_iload hx hb dL_law_552 (lv_at hl 4 rfl) ?_
  refine lv_iconst (v := 1) hx hb dL_law_554 (by decide) ?_
  refine lv_iadd hx hb dL_law_555 ?_
  refine va_sld hx hb hX hbl hbA hS hi1 dL_law_556 ?_
  rw [ev1]
  refine mcVi (As := [.int v1]) (rest := [.int r]) (wr := [(h, .inr (3, [.ref e0, .ref r0])), (e0, .inr (0, [.ref a1, .ref a2, .ref a3, .int cn])), (a1, .inl (cI, 32, .inl qs)), (a2, .inl (cI, 33, .inl ts)), (a3, .inl (cI, 33, .inl bs)), (r0, .inr (2, [.ref a4])), (a4, .inl (cI, 201, .inl mo)), (ao, .inl (cJ, 1, .inr (.inl ol)))]) (wc := [(g4, .inr (4, [.int mth, .int (nI P), .int (nI Q0), .int mmn, .ref a5, .int mrs, .ref a6, .long mlt, .long mlb, .long mht, .long mhb])), (a5, .inl (cI, 64, .inl mte)), (a6, .inl (cI, 64, .inl mru))]) ⟨hx, hb, hml, hown, hts⟩ (zX4_row l G cI _ g4 a5 a6 mth (nI P) (nI Q0) mmn mte mrs mru mlt mlb mht mhb v1 h4) (cwV 1 hts gL_law_X4_row rfl rfl rfl (by decide +kernel) ⟨Nat.le_of_ble_eq_true rfl, Nat.le_of_ble_eq_true rfl⟩) hK hP hD [7, 8, 9] [0, 1, 2, 3, 4, 5, 6, 10] rfl rfl rfl (by decide) (by decide) (by decide) rfl rfl rfl hl.1 rfl (Nat.le_of_ble_eq_true rfl) dL_law_557 ⟨hc, hs⟩ hS hA (fun H locs hP hD hz557 hS => ?_)
  have hP : va_P G vwCl (LW cI cJ h e0 a1 a2 a3 r0 a4 g4 a5 a6 ao mo qs ts bs cn 0 (nI P) (nI Q0) mmn mte mrs mru mlt mlb mht mhb ol) H := hP.sub [0, 1, 2, 3, 4, 5, 6, 8, 9, 10, 7] rfl
  have hD : va_D A (LW cI cJ h e0 a1 a2 a3 r0 a4 g4 a5 a6 ao mo qs ts bs cn 0 (nI P) (nI Q0) mmn mte mrs mru mlt mlb mht mhb ol) := hD.sub [0, 1, 2, 3, 4, 5, 6, 8, 9, 10, 7] (by decide) rfl
  refine lv_icmp_eq (tgt := 680) hx hb dL_law_560 (by decide) (fun c9 => ?_) (fun c9 => absurd rfl c9)
  exact hk P Q0 qs ts bs cn 0 mmn mte mrs mru mlt mlb mht mhb ol _ _ _ hSO hP hD hS (lv_sub hl [0, 1, 2, 3, 4] rfl)
set_option maxHeartbeats 4000000 in
set_option maxRecDepth 100000 in
theorem law_12 {p : Program} {l : Launch} {e : Env} {s : State} {m : MethodId} {below : List Frame} {meth : Method} {c : Code} {Q : State → Prop} {A : Nat → Prop} {G : va_G} {cI cJ : ClassId} {b h e0 a1 a2 a3 r0 a4 g4 a5 a6 ao L cells slots : Nat} {xs : Nat → Int32} {mo : Nat → Int32} {i v1 v2 v3 v4 : Int32} (C : LC l p s m c b L xs A G cI cJ) (hV : LV L xs i v1 v2 v3 v4) (hR : ROk mo) (hc : cells + 2 ≤ 601024) (hs : slots + 6 ≤ 7293034) (hk : LK p l e s m below meth c Q A G cI cJ b h e0 a1 a2 a3 r0 a4 g4 a5 a6 ao mo i 680 (cells + 2) (slots + 6)) : LK p l e s m below meth c Q A G cI cJ b h e0 a1 a2 a3 r0 a4 g4 a5 a6 ao mo i 565 cells slots := by
  intro P Q0 qs ts bs cn mth mmn mte mrs mru mlt mlb mht mhb ol H locs ls hSO hP hD hS hl
  obtain ⟨hx, hb, hml, hown, hts, hX, hbl, hbA, hA, hK2, hl0, hT1, hT2, hT3, hZ⟩ := C
  obtain ⟨⟨hi1, ev1⟩, ⟨hi2, ev2⟩, ⟨hi3, ev3⟩, ⟨hi4, ev4⟩⟩ := hV
  have hK := hK2.K
  obtain ⟨r, P', Q', qs', ts', bs', cn', h3, hSO', h4⟩ := op_pick hSO hR mth v1 v2
  refine lv_aload_n hx hb dL_law_565 rfl (lv_at hl 1 rfl) ?_
  refine lv_aload_n hx hb dL_law_566 rfl (lv_at hl 0 rfl) ?_
  refine lv_iload hx hb dL_law_567 (lv_at hl 4 rfl) ?_
  refine lv_iconst (v := 1) hx hb dL_law_569 (by decide) ?_
  refine lv_iadd hx hb dL_law_570 ?_
  refine va_sld hx hb hX hbl hbA hS hi1 dL_law_571 ?_
  rw [ev1]
  refine lv_aload_n hx hb dL_law_572 rfl (lv_at hl 0 rfl) ?_
  refine lv_iload hx hb dL_law_573 (lv_at hl 4 rfl) ?_
  refine lv_iconst (v := 2) hx hb dL_law_575 (by decide) ?_
  refine lv_iadd hx hb dL_law_576 ?_
  refine va_sld hx hb hX hbl hbA hS hi2 dL_law_577 ?_
  rw [ev2]
  refine mcVi (As := [.int v1, .int v2]) (rest := []) (wr := [(g4, .inr (4, [.int mth, .int (nI P), .int (nI Q0), .int mmn, .ref a5, .int mrs, .ref a6, .long mlt, .long mlb, .long mht, .long mhb])), (a5, .inl (cI, 64, .inl mte)), (a6, .inl (cI, 64, .inl mru)), (ao, .inl (cJ, 1, .inr (.inl ol)))]) (wc := [(h, .inr (3, [.ref e0, .ref r0])), (e0, .inr (0, [.ref a1, .ref a2, .ref a3, .int cn])), (a1, .inl (cI, 32, .inl qs)), (a2, .inl (cI, 33, .inl ts)), (a3, .inl (cI, 33, .inl bs)), (r0, .inr (2, [.ref a4])), (a4, .inl (cI, 201, .inl mo))]) ⟨hx, hb, hml, hown, hts⟩ (zX3_pick l G cI _ h e0 a1 a2 a3 r0 a4 qs ts bs cn mo v1 v2 h3) (cwV 2 hts gL_law_X3_pick rfl rfl rfl (by decide +kernel) ⟨Nat.le_of_ble_eq_true rfl, Nat.le_of_ble_eq_true rfl⟩) hK hP hD [0, 1, 2, 3, 4, 5, 6] [7, 8, 9, 10] rfl rfl rfl (by decide) (by decide) (by decide) rfl rfl rfl hl.1 rfl (Nat.le_of_ble_eq_true rfl) dL_law_578 ⟨Nat.le_trans (Nat.add_le_add_left (show 0 ≤ 2 by decide) _) hc, Nat.le_trans (Nat.add_le_add_left (show 0 ≤ 6 by decide) _) hs⟩ hS hA (fun H locs hP hD hz578 hS => ?_)
  have hP : va_P G vwCl (LW cI cJ h e0 a1 a2 a3 r0 a4 g4 a5 a6 ao mo qs' ts' bs' cn' mth (nI P) (nI Q0) mmn mte mrs mru mlt mlb mht mhb ol) H := hP.sub [4, 5, 6, 7, 8, 9, 10, 0, 1, 2, 3] rfl
  have hD : va_D A (LW cI cJ h e0 a1 a2 a3 r0 a4 g4 a5 a6 ao mo qs' ts' bs' cn' mth (nI P) (nI Q0) mmn mte mrs mru mlt mlb mht mhb ol) := hD.sub [4, 5, 6, 7, 8, 9, 10, 0, 1, 2, 3] (by decide) rfl
  refine W.widen (k := cells + 2) (n := slots + 6) (by omega) (by omega) ?_
  refine lv_aload_n hx hb dL_law_581 rfl (lv_at hl 2 rfl) ?_
  refine lv_aload_n hx hb dL_law_582 rfl (lv_at hl 0 rfl) ?_
  refine lv_iload hx hb dL_law_583 (lv_at hl 4 rfl) ?_
  refine lv_iconst (v := 1) hx hb dL_law_585 (by decide) ?_
  refine lv_iadd hx hb dL_law_586 ?_
  refine va_sld hx hb hX hbl hbA hS hi1 dL_law_587 ?_
  rw [ev1]
  refine lv_aload_n hx hb dL_law_588 rfl (lv_at hl 0 rfl) ?_
  refine lv_iload hx hb dL_law_589 (lv_at hl 4 rfl) ?_
  refine lv_iconst (v := 2) hx hb dL_law_591 (by decide) ?_
  refine lv_iadd hx hb dL_law_592 ?_
  refine va_sld hx hb hX hbl hbA hS hi2 dL_law_593 ?_
  rw [ev2]
  refine mcVi (As := [.int v1, .int v2]) (rest := [.int r]) (wr := [(h, .inr (3, [.ref e0, .ref r0])), (e0, .inr (0, [.ref a1, .ref a2, .ref a3, .int cn'])), (a1, .inl (cI, 32, .inl qs')), (a2, .inl (cI, 33, .inl ts')), (a3, .inl (cI, 33, .inl bs')), (r0, .inr (2, [.ref a4])), (a4, .inl (cI, 201, .inl mo)), (ao, .inl (cJ, 1, .inr (.inl ol)))]) (wc := [(g4, .inr (4, [.int mth, .int (nI P), .int (nI Q0), .int mmn, .ref a5, .int mrs, .ref a6, .long mlt, .long mlb, .long mht, .long mhb])), (a5, .inl (cI, 64, .inl mte)), (a6, .inl (cI, 64, .inl mru))]) ⟨hx, hb, hml, hown, hts⟩ (zX4_pick l G cI _ g4 a5 a6 mth (nI P) (nI Q0) mmn mte mrs mru mlt mlb mht mhb v1 v2 h4) (cwV 2 hts gL_law_X4_pick rfl rfl rfl (by decide +kernel) ⟨Nat.le_of_ble_eq_true rfl, Nat.le_of_ble_eq_true rfl⟩) hK hP hD [7, 8, 9] [0, 1, 2, 3, 4, 5, 6, 10] rfl rfl rfl (by decide) (by decide) (by decide) rfl rfl rfl hl.1 rfl (Nat.le_of_ble_eq_true rfl) dL_law_594 ⟨hc, hs⟩ hS hA (fun H locs hP hD hz594 hS => ?_)
  have hP : va_P G vwCl (LW cI cJ h e0 a1 a2 a3 r0 a4 g4 a5 a6 ao mo qs' ts' bs' cn' 0 (nI P') (nI Q') mmn mte mrs mru mlt mlb mht mhb ol) H := hP.sub [0, 1, 2, 3, 4, 5, 6, 8, 9, 10, 7] rfl
  have hD : va_D A (LW cI cJ h e0 a1 a2 a3 r0 a4 g4 a5 a6 ao mo qs' ts' bs' cn' 0 (nI P') (nI Q') mmn mte mrs mru mlt mlb mht mhb ol) := hD.sub [0, 1, 2, 3, 4, 5, 6, 8, 9, 10, 7] (by decide) rfl
  refine lv_icmp_eq (tgt := 680) hx hb dL_law_597 (by decide) (fun c9 => ?_) (fun c9 => absurd rfl c9)
  exact hk P' Q' qs' ts' bs' cn' 0 mmn mte mrs mru mlt mlb mht mhb ol _ _ _ hSO' hP hD hS (lv_sub hl [0, 1, 2, 3, 4] rfl)
set_option maxHeartbeats 4000000 in
set_option maxRecDepth 100000 in
theorem law_13 {p : Program} {l : Launch} {e : Env} {s : State} {m : MethodId} {below : List Frame} {meth : Method} {c : Code} {Q : State → Prop} {A : Nat → Prop} {G : va_G} {cI cJ : ClassId} {b h e0 a1 a2 a3 r0 a4 g4 a5 a6 ao L cells slots : Nat} {xs : Nat → Int32} {mo : Nat → Int32} {i v1 v2 v3 v4 : Int32} (C : LC l p s m c b L xs A G cI cJ) (hV : LV L xs i v1 v2 v3 v4) (hR : ROk mo) (hc : cells + 2 ≤ 601024) (hs : slots + 6 ≤ 7293034) (hk : LK p l e s m below meth c Q A G cI cJ b h e0 a1 a2 a3 r0 a4 g4 a5 a6 ao mo i 680 (cells + 2) (slots + 6)) : LK p l e s m below meth c Q A G cI cJ b h e0 a1 a2 a3 r0 a4 g4 a5 a6 ao mo i 602 cells slots := by
  intro P Q0 qs ts bs cn mth mmn mte mrs mru mlt mlb mht mhb ol H locs ls hSO hP hD hS hl
  obtain ⟨hx, hb, hml, hown, hts, hX, hbl, hbA, hA, hK2, hl0, hT1, hT2, hT3, hZ⟩ := C
  obtain ⟨⟨hi1, ev1⟩, ⟨hi2, ev2⟩, ⟨hi3, ev3⟩, ⟨hi4, ev4⟩⟩ := hV
  have hK := hK2.K
  obtain ⟨r, h3, h4⟩ := op_place hSO hR mth v1
  refine lv_aload_n hx hb dL_law_602 rfl (lv_at hl 1 rfl) ?_
  refine lv_aload_n hx hb dL_law_603 rfl (lv_at hl 0 rfl) ?_
  refine lv_iload hx hb dL_law_604 (lv_at hl 4 rfl) ?_
  refine lv_iconst (v := 1) hx hb dL_law_606 (by decide) ?_
  refine lv_iadd hx hb dL_law_607 ?_
  refine va_sld hx hb hX hbl hbA hS hi1 dL_law_608 ?_
  rw [ev1]
  refine roVi (As := [.int v1]) (rest := []) ⟨hx, hb, hml, hown, hts⟩ (zX3_place l G cI _ h e0 a1 a2 a3 r0 a4 qs ts bs cn mo v1 h3) (cwV 1 hts gL_law_X3_place rfl rfl rfl (by decide +kernel) ⟨Nat.le_of_ble_eq_true rfl, Nat.le_of_ble_eq_true rfl⟩) hK hP (hP.sub [0, 1, 2, 3, 4, 5, 6] rfl) rfl rfl rfl hl.1 rfl (Nat.le_of_ble_eq_true rfl) dL_law_609 ⟨Nat.le_trans (Nat.le_add_right _ _) hc, Nat.le_trans (Nat.le_add_right _ _) hs⟩ hS hA (fun H locs hP hz609 hS => ?_)
  refine W.widen (k := cells + 2) (n := slots + 6) (by omega) (by omega) ?_
  refine lv_aload_n hx hb dL_law_612 rfl (lv_at hl 2 rfl) ?_
  refine lv_aload_n hx hb dL_law_613 rfl (lv_at hl 0 rfl) ?_
  refine lv_iload hx hb dL_law_614 (lv_at hl 4 rfl) ?_
  refine lv_iconst (v := 1) hx hb dL_law_616 (by decide) ?_
  refine lv_iadd hx hb dL_law_617 ?_
  refine va_sld hx hb hX hbl hbA hS hi1 dL_law_618 ?_
  rw [ev1]
  refine mcVi (As := [.int v1]) (rest := [.int r]) (wr := [(h, .inr (3, [.ref e0, .ref r0])), (e0, .inr (0, [.ref a1, .ref a2, .ref a3, .int cn])), (a1, .inl (cI, 32, .inl qs)), (a2, .inl (cI, 33, .inl ts)), (a3, .inl (cI, 33, .inl bs)), (r0, .inr (2, [.ref a4])), (a4, .inl (cI, 201, .inl mo)), (ao, .inl (cJ, 1, .inr (.inl ol)))]) (wc := [(g4, .inr (4, [.int mth, .int (nI P), .int (nI Q0), .int mmn, .ref a5, .int mrs, .ref a6, .long mlt, .long mlb, .long mht, .long mhb])), (a5, .inl (cI, 64, .inl mte)), (a6, .inl (cI, 64, .inl mru))]) ⟨hx, hb, hml, hown, hts⟩ (zX4_place l G cI _ g4 a5 a6 mth (nI P) (nI Q0) mmn mte mrs mru mlt mlb mht mhb v1 h4) (cwV 1 hts gL_law_X4_place rfl rfl rfl (by decide +kernel) ⟨Nat.le_of_ble_eq_true rfl, Nat.le_of_ble_eq_true rfl⟩) hK hP hD [7, 8, 9] [0, 1, 2, 3, 4, 5, 6, 10] rfl rfl rfl (by decide) (by decide) (by decide) rfl rfl rfl hl.1 rfl (Nat.le_of_ble_eq_true rfl) dL_law_619 ⟨hc, hs⟩ hS hA (fun H locs hP hD hz619 hS => ?_)
  have hP : va_P G vwCl (LW cI cJ h e0 a1 a2 a3 r0 a4 g4 a5 a6 ao mo qs ts bs cn 0 (nI P) (nI Q0) mmn mte mrs mru mlt mlb mht mhb ol) H := hP.sub [0, 1, 2, 3, 4, 5, 6, 8, 9, 10, 7] rfl
  have hD : va_D A (LW cI cJ h e0 a1 a2 a3 r0 a4 g4 a5 a6 ao mo qs ts bs cn 0 (nI P) (nI Q0) mmn mte mrs mru mlt mlb mht mhb ol) := hD.sub [0, 1, 2, 3, 4, 5, 6, 8, 9, 10, 7] (by decide) rfl
  refine lv_icmp_eq (tgt := 680) hx hb dL_law_622 (by decide) (fun c9 => ?_) (fun c9 => absurd rfl c9)
  exact hk P Q0 qs ts bs cn 0 mmn mte mrs mru mlt mlb mht mhb ol _ _ _ hSO hP hD hS (lv_sub hl [0, 1, 2, 3, 4] rfl)
set_option maxHeartbeats 4000000 in
set_option maxRecDepth 100000 in
theorem law_14 {p : Program} {l : Launch} {e : Env} {s : State} {m : MethodId} {below : List Frame} {meth : Method} {c : Code} {Q : State → Prop} {A : Nat → Prop} {G : va_G} {cI cJ : ClassId} {b h e0 a1 a2 a3 r0 a4 g4 a5 a6 ao L cells slots : Nat} {xs : Nat → Int32} {mo : Nat → Int32} {i v1 v2 v3 v4 : Int32} (C : LC l p s m c b L xs A G cI cJ) (hV : LV L xs i v1 v2 v3 v4) (hR : ROk mo) (hc : cells + 2 ≤ 601024) (hs : slots + 6 ≤ 7293034) (hk : LK p l e s m below meth c Q A G cI cJ b h e0 a1 a2 a3 r0 a4 g4 a5 a6 ao mo i 680 (cells + 2) (slots + 6)) : LK p l e s m below meth c Q A G cI cJ b h e0 a1 a2 a3 r0 a4 g4 a5 a6 ao mo i 627 cells slots := by
  intro P Q0 qs ts bs cn mth mmn mte mrs mru mlt mlb mht mhb ol H locs ls hSO hP hD hS hl
  obtain ⟨hx, hb, hml, hown, hts, hX, hbl, hbA, hA, hK2, hl0, hT1, hT2, hT3, hZ⟩ := C
  obtain ⟨⟨hi1, ev1⟩, ⟨hi2, ev2⟩, ⟨hi3, ev3⟩, ⟨hi4, ev4⟩⟩ := hV
  have hK := hK2.K
  obtain ⟨r, h3, h4⟩ := op_floors hSO mth v1
  refine lv_aload_n hx hb dL_law_627 rfl (lv_at hl 1 rfl) ?_
  refine lv_aload_n hx hb dL_law_628 rfl (lv_at hl 0 rfl) ?_
  refine lv_iload hx hb dL_law_629 (lv_at hl 4 rfl) ?_
  refine lv_iconst (v := 1) hx hb dL_law_631 (by decide) ?_
  refine lv_iadd hx hb dL_law_632 ?_
  refine va_sld hx hb hX hbl hbA hS hi1 dL_law_633 ?_
  rw [ev1]
  refine roVl (As := [.int v1]) (rest := []) ⟨hx, hb, hml, hown, hts⟩ (zX3_floors l G cI _ h e0 a1 a2 a3 r0 a4 qs ts bs cn mo v1 h3) (cwV 1 hts gL_law_X3_floors rfl rfl rfl (by decide +kernel) ⟨Nat.le_of_ble_eq_true rfl, Nat.le_of_ble_eq_true rfl⟩) hK hP (hP.sub [0, 1, 2, 3, 4, 5, 6] rfl) rfl rfl rfl hl.1 rfl (Nat.le_of_ble_eq_true rfl) dL_law_634 ⟨Nat.le_trans (Nat.le_add_right _ _) hc, Nat.le_trans (Nat.le_add_right _ _) hs⟩ hS hA (fun H locs hP hz634 hS => ?_)
  refine W.widen (k := cells + 2) (n := slots + 6) (by omega) (by omega) ?_
  refine lv_aload_n hx hb dL_law_637 rfl (lv_at hl 2 rfl) ?_
  refine lv_aload_n hx hb dL_law_638 rfl (lv_at hl 0 rfl) ?_
  refine lv_iload hx hb dL_law_639 (lv_at hl 4 rfl) ?_
  refine lv_iconst (v := 1) hx hb dL_law_641 (by decide) ?_
  refine lv_iadd hx hb dL_law_642 ?_
  refine va_sld hx hb hX hbl hbA hS hi1 dL_law_643 ?_
  rw [ev1]
  refine mcVl (As := [.int v1]) (rest := [.long r]) (wr := [(h, .inr (3, [.ref e0, .ref r0])), (e0, .inr (0, [.ref a1, .ref a2, .ref a3, .int cn])), (a1, .inl (cI, 32, .inl qs)), (a2, .inl (cI, 33, .inl ts)), (a3, .inl (cI, 33, .inl bs)), (r0, .inr (2, [.ref a4])), (a4, .inl (cI, 201, .inl mo)), (ao, .inl (cJ, 1, .inr (.inl ol)))]) (wc := [(g4, .inr (4, [.int mth, .int (nI P), .int (nI Q0), .int mmn, .ref a5, .int mrs, .ref a6, .long mlt, .long mlb, .long mht, .long mhb])), (a5, .inl (cI, 64, .inl mte)), (a6, .inl (cI, 64, .inl mru))]) ⟨hx, hb, hml, hown, hts⟩ (zX4_floors l G cI _ g4 a5 a6 mth (nI P) (nI Q0) mmn mte mrs mru mlt mlb mht mhb v1 h4) (cwV 1 hts gL_law_X4_floors rfl rfl rfl (by decide +kernel) ⟨Nat.le_of_ble_eq_true rfl, Nat.le_of_ble_eq_true rfl⟩) hK hP hD [7, 8, 9] [0, 1, 2, 3, 4, 5, 6, 10] rfl rfl rfl (by decide) (by decide) (by decide) rfl rfl rfl hl.1 rfl (Nat.le_of_ble_eq_true rfl) dL_law_644 ⟨hc, hs⟩ hS hA (fun H locs hP hD hz644 hS => ?_)
  have hP : va_P G vwCl (LW cI cJ h e0 a1 a2 a3 r0 a4 g4 a5 a6 ao mo qs ts bs cn 0 (nI P) (nI Q0) mmn mte mrs mru mlt mlb mht mhb ol) H := hP.sub [0, 1, 2, 3, 4, 5, 6, 8, 9, 10, 7] rfl
  have hD : va_D A (LW cI cJ h e0 a1 a2 a3 r0 a4 g4 a5 a6 ao mo qs ts bs cn 0 (nI P) (nI Q0) mmn mte mrs mru mlt mlb mht mhb ol) := hD.sub [0, 1, 2, 3, 4, 5, 6, 8, 9, 10, 7] (by decide) rfl
  refine W.lcmp hx hb dL_law_647 ?_
  refine lv_if_eq (tgt := 680) hx hb dL_law_648 (by decide) (fun c9 => ?_) (fun c9 => absurd ((lg_cmp_eq _ _).mpr rfl) c9)
  exact hk P Q0 qs ts bs cn 0 mmn mte mrs mru mlt mlb mht mhb ol _ _ _ hSO hP hD hS (lv_sub hl [0, 1, 2, 3, 4] rfl)
set_option maxHeartbeats 4000000 in
set_option maxRecDepth 100000 in
theorem law_15 {p : Program} {l : Launch} {e : Env} {s : State} {m : MethodId} {below : List Frame} {meth : Method} {c : Code} {Q : State → Prop} {A : Nat → Prop} {G : va_G} {cI cJ : ClassId} {b h e0 a1 a2 a3 r0 a4 g4 a5 a6 ao L cells slots : Nat} {xs : Nat → Int32} {mo : Nat → Int32} {i v1 v2 v3 v4 : Int32} (C : LC l p s m c b L xs A G cI cJ) (hV : LV L xs i v1 v2 v3 v4) (hR : ROk mo) (hc : cells + 2 ≤ 601024) (hs : slots + 6 ≤ 7293034) (hk : LK p l e s m below meth c Q A G cI cJ b h e0 a1 a2 a3 r0 a4 g4 a5 a6 ao mo i 680 (cells + 2) (slots + 6)) : LK p l e s m below meth c Q A G cI cJ b h e0 a1 a2 a3 r0 a4 g4 a5 a6 ao mo i 653 cells slots := by
  intro P Q0 qs ts bs cn mth mmn mte mrs mru mlt mlb mht mhb ol H locs ls hSO hP hD hS hl
  obtain ⟨hx, hb, hml, hown, hts, hX, hbl, hbA, hA, hK2, hl0, hT1, hT2, hT3, hZ⟩ := C
  obtain ⟨⟨hi1, ev1⟩, ⟨hi2, ev2⟩, ⟨hi3, ev3⟩, ⟨hi4, ev4⟩⟩ := hV
  have hK := hK2.K
  obtain ⟨r, h3, h4⟩ := op_sawteeth hSO mth
  refine lv_aload_n hx hb dL_law_653 rfl (lv_at hl 1 rfl) ?_
  refine roVl (As := []) (rest := []) ⟨hx, hb, hml, hown, hts⟩ (zX3_sawteeth l G cI _ h e0 a1 a2 a3 r0 a4 qs ts bs cn mo  h3) (cwV 0 hts gL_law_X3_sawteeth rfl rfl rfl (by decide +kernel) ⟨Nat.le_of_ble_eq_true rfl, Nat.le_of_ble_eq_true rfl⟩) hK hP (hP.sub [0, 1, 2, 3, 4, 5, 6] rfl) rfl rfl rfl hl.1 rfl (Nat.le_of_ble_eq_true rfl) dL_law_654 ⟨Nat.le_trans (Nat.le_add_right _ _) hc, Nat.le_trans (Nat.le_add_right _ _) hs⟩ hS hA (fun H locs hP hz654 hS => ?_)
  refine W.widen (k := cells + 2) (n := slots + 6) (by omega) (by omega) ?_
  refine lv_aload_n hx hb dL_law_657 rfl (lv_at hl 2 rfl) ?_
  refine mcVl (As := []) (rest := [.long r]) (wr := [(h, .inr (3, [.ref e0, .ref r0])), (e0, .inr (0, [.ref a1, .ref a2, .ref a3, .int cn])), (a1, .inl (cI, 32, .inl qs)), (a2, .inl (cI, 33, .inl ts)), (a3, .inl (cI, 33, .inl bs)), (r0, .inr (2, [.ref a4])), (a4, .inl (cI, 201, .inl mo)), (ao, .inl (cJ, 1, .inr (.inl ol)))]) (wc := [(g4, .inr (4, [.int mth, .int (nI P), .int (nI Q0), .int mmn, .ref a5, .int mrs, .ref a6, .long mlt, .long mlb, .long mht, .long mhb])), (a5, .inl (cI, 64, .inl mte)), (a6, .inl (cI, 64, .inl mru))]) ⟨hx, hb, hml, hown, hts⟩ (zX4_sawteeth l G cI _ g4 a5 a6 mth (nI P) (nI Q0) mmn mte mrs mru mlt mlb mht mhb  h4) (cwV 0 hts gL_law_X4_sawteeth rfl rfl rfl (by decide +kernel) ⟨Nat.le_of_ble_eq_true rfl, Nat.le_of_ble_eq_true rfl⟩) hK hP hD [7, 8, 9] [0, 1, 2, 3, 4, 5, 6, 10] rfl rfl rfl (by decide) (by decide) (by decide) rfl rfl rfl hl.1 rfl (Nat.le_of_ble_eq_true rfl) dL_law_658 ⟨hc, hs⟩ hS hA (fun H locs hP hD hz658 hS => ?_)
  have hP : va_P G vwCl (LW cI cJ h e0 a1 a2 a3 r0 a4 g4 a5 a6 ao mo qs ts bs cn 0 (nI P) (nI Q0) mmn mte mrs mru mlt mlb mht mhb ol) H := hP.sub [0, 1, 2, 3, 4, 5, 6, 8, 9, 10, 7] rfl
  have hD : va_D A (LW cI cJ h e0 a1 a2 a3 r0 a4 g4 a5 a6 ao mo qs ts bs cn 0 (nI P) (nI Q0) mmn mte mrs mru mlt mlb mht mhb ol) := hD.sub [0, 1, 2, 3, 4, 5, 6, 8, 9, 10, 7] (by decide) rfl
  refine W.lcmp hx hb dL_law_661 ?_
  refine lv_if_eq (tgt := 680) hx hb dL_law_662 (by decide) (fun c9 => ?_) (fun c9 => absurd ((lg_cmp_eq _ _).mpr rfl) c9)
  exact hk P Q0 qs ts bs cn 0 mmn mte mrs mru mlt mlb mht mhb ol _ _ _ hSO hP hD hS (lv_sub hl [0, 1, 2, 3, 4] rfl)
set_option maxHeartbeats 4000000 in
set_option maxRecDepth 100000 in
theorem law_16 {p : Program} {l : Launch} {e : Env} {s : State} {m : MethodId} {below : List Frame} {meth : Method} {c : Code} {Q : State → Prop} {A : Nat → Prop} {G : va_G} {cI cJ : ClassId} {b h e0 a1 a2 a3 r0 a4 g4 a5 a6 ao L cells slots : Nat} {xs : Nat → Int32} {mo : Nat → Int32} {i v1 v2 v3 v4 : Int32} (C : LC l p s m c b L xs A G cI cJ) (hV : LV L xs i v1 v2 v3 v4) (hR : ROk mo) (hc : cells + 2 ≤ 601024) (hs : slots + 6 ≤ 7293034) (hk : LK p l e s m below meth c Q A G cI cJ b h e0 a1 a2 a3 r0 a4 g4 a5 a6 ao mo i 680 (cells + 2) (slots + 6)) : LK p l e s m below meth c Q A G cI cJ b h e0 a1 a2 a3 r0 a4 g4 a5 a6 ao mo i 667 cells slots := by
  intro P Q0 qs ts bs cn mth mmn mte mrs mru mlt mlb mht mhb ol H locs ls hSO hP hD hS hl
  obtain ⟨hx, hb, hml, hown, hts, hX, hbl, hbA, hA, hK2, hl0, hT1, hT2, hT3, hZ⟩ := C
  obtain ⟨⟨hi1, ev1⟩, ⟨hi2, ev2⟩, ⟨hi3, ev3⟩, ⟨hi4, ev4⟩⟩ := hV
  have hK := hK2.K
  obtain ⟨r, h3, h4⟩ := op_check hSO mth
  refine lv_aload_n hx hb dL_law_667 rfl (lv_at hl 1 rfl) ?_
  refine roVi (As := []) (rest := []) ⟨hx, hb, hml, hown, hts⟩ (zX3_check l G cI _ h e0 a1 a2 a3 r0 a4 qs ts bs cn mo  h3) (cwV 0 hts gL_law_X3_check rfl rfl rfl (by decide +kernel) ⟨Nat.le_of_ble_eq_true rfl, Nat.le_of_ble_eq_true rfl⟩) hK hP (hP.sub [0, 1, 2, 3, 4, 5, 6] rfl) rfl rfl rfl hl.1 rfl (Nat.le_of_ble_eq_true rfl) dL_law_668 ⟨Nat.le_trans (Nat.le_add_right _ _) hc, Nat.le_trans (Nat.le_add_right _ _) hs⟩ hS hA (fun H locs hP hz668 hS => ?_)
  refine W.widen (k := cells + 2) (n := slots + 6) (by omega) (by omega) ?_
  refine lv_aload_n hx hb dL_law_671 rfl (lv_at hl 2 rfl) ?_
  refine mcVi (As := []) (rest := [.int r]) (wr := [(h, .inr (3, [.ref e0, .ref r0])), (e0, .inr (0, [.ref a1, .ref a2, .ref a3, .int cn])), (a1, .inl (cI, 32, .inl qs)), (a2, .inl (cI, 33, .inl ts)), (a3, .inl (cI, 33, .inl bs)), (r0, .inr (2, [.ref a4])), (a4, .inl (cI, 201, .inl mo)), (ao, .inl (cJ, 1, .inr (.inl ol)))]) (wc := [(g4, .inr (4, [.int mth, .int (nI P), .int (nI Q0), .int mmn, .ref a5, .int mrs, .ref a6, .long mlt, .long mlb, .long mht, .long mhb])), (a5, .inl (cI, 64, .inl mte)), (a6, .inl (cI, 64, .inl mru))]) ⟨hx, hb, hml, hown, hts⟩ (zX4_check l G cI _ g4 a5 a6 mth (nI P) (nI Q0) mmn mte mrs mru mlt mlb mht mhb  h4) (cwV 0 hts gL_law_X4_check rfl rfl rfl (by decide +kernel) ⟨Nat.le_of_ble_eq_true rfl, Nat.le_of_ble_eq_true rfl⟩) hK hP hD [7, 8, 9] [0, 1, 2, 3, 4, 5, 6, 10] rfl rfl rfl (by decide) (by decide) (by decide) rfl rfl rfl hl.1 rfl (Nat.le_of_ble_eq_true rfl) dL_law_672 ⟨hc, hs⟩ hS hA (fun H locs hP hD hz672 hS => ?_)
  have hP : va_P G vwCl (LW cI cJ h e0 a1 a2 a3 r0 a4 g4 a5 a6 ao mo qs ts bs cn 0 (nI P) (nI Q0) mmn mte mrs mru mlt mlb mht mhb ol) H := hP.sub [0, 1, 2, 3, 4, 5, 6, 8, 9, 10, 7] rfl
  have hD : va_D A (LW cI cJ h e0 a1 a2 a3 r0 a4 g4 a5 a6 ao mo qs ts bs cn 0 (nI P) (nI Q0) mmn mte mrs mru mlt mlb mht mhb ol) := hD.sub [0, 1, 2, 3, 4, 5, 6, 8, 9, 10, 7] (by decide) rfl
  refine lv_icmp_eq (tgt := 680) hx hb dL_law_675 (by decide) (fun c9 => ?_) (fun c9 => absurd rfl c9)
  exact hk P Q0 qs ts bs cn 0 mmn mte mrs mru mlt mlb mht mhb ol _ _ _ hSO hP hD hS (lv_sub hl [0, 1, 2, 3, 4] rfl)

/-! take, near, between: the class and the reference, returned or thrown -/
theorem i100k : (100000 : Int32) = iI 100000 := by decide
theorem i5k : (5000 : Int32) = iI 5000 := by decide
theorem i1k : (1000 : Int32) = iI 1000 := by decide
theorem wY {z a b : Int} {A B : Int32} (hA : A = iI a) (hB : B = iI b) (hz : mid z) (ha : mid a) (hb : mid b) (h : a ≤ z ∧ z ≤ b) : fX3_isWithin (iI z) A B = some 1 := by rw [hA, hB]; exact wi_y hz ha hb h
theorem wN {z a b : Int} {A B : Int32} (hA : A = iI a) (hB : B = iI b) (hz : mid z) (ha : mid a) (hb : mid b) (h : ¬ (a ≤ z ∧ z ≤ b)) : fX3_isWithin (iI z) A B = some 0 := by rw [hA, hB]; exact wi_n hz ha hb h
theorem iY {z a b : Int} {A B : Int64} (hA : A = lI a) (hB : B = lI b) (hz : mid z) (ha : mid a) (hb : mid b) (h : a ≤ z ∧ z ≤ b) : fX4_in (Int32.toInt64 (iI z)) A B = some 1 := by rw [hA, hB, iI_l hz]; exact in_y (mid_big hz) (mid_big ha) (mid_big hb) h
theorem iN {z a b : Int} {A B : Int64} (hA : A = lI a) (hB : B = lI b) (hz : mid z) (ha : mid a) (hb : mid b) (h : ¬ (a ≤ z ∧ z ≤ b)) : fX4_in (Int32.toInt64 (iI z)) A B = some 0 := by rw [hA, hB, iI_l hz]; exact in_n (mid_big hz) (mid_big ha) (mid_big hb) h
theorem mid0 : mid 0 := ⟨by decide, by decide⟩
theorem mid1 : mid 1 := ⟨by decide, by decide⟩
theorem mid2 : mid 2 := ⟨by decide, by decide⟩
theorem mid1k : mid 1000 := ⟨by decide, by decide⟩
theorem mid5k : mid 5000 := ⟨by decide, by decide⟩
theorem mid100k : mid 100000 := ⟨by decide, by decide⟩
theorem mtake_J29 (mth mtp mbt x1 x2 : Int32) : fX4_take_J29 mth mtp mbt x1 x2 = some (1, mtp, mbt) := by unfold fX4_take_J29 fX4_take_J30; rw [if_neg (by decide)]
theorem op_take {P Q : Nat} {qs ts bs : Nat → Int32} {cn : Int32} (mth p1 p2 : Int32) : (∃ P' Q' qs' ts' bs' cn', fX3_take qs ts bs cn p1 p2 = some (qs', ts', bs', cn') ∧ SOk P' Q' qs' ts' bs' cn' ∧ fX4_take mth (nI P) (nI Q) p1 p2 = some (0, nI P', nI Q')) ∨ (tX3_take p1 p2 = some () ∧ fX4_take mth (nI P) (nI Q) p1 p2 = some (1, nI P, nI Q)) := by
  obtain ⟨z1, hz1, rfl⟩ := iI_of p1
  obtain ⟨z2, hz2, rfl⟩ := iI_of p2
  by_cases h1 : 0 ≤ z1 ∧ z1 ≤ 100000
  · have a1 := wY iI0 i100k hz1 mid0 mid100k h1
    have b1 := iY lI0 lI100000 hz1 mid0 mid100k h1
    by_cases h2 : 1 ≤ z2 ∧ z2 ≤ 100000
    · have a2 := wY iI1 i100k hz2 mid1 mid100k h2
      have b2 := iY lI1 lI100000 hz2 mid1 mid100k h2
      refine Or.inl ?_
      obtain ⟨p, hp, ep⟩ := iI_nat h1.1
      obtain ⟨q, hq, eq⟩ := iI_nat (z := z2) (by omega)
      subst hp; subst hq
      obtain ⟨qs', ts', bs', cn', h3, h4⟩ := expand_S (p := p) (q := q) qs ts bs cn (by omega) (by omega) (by omega)
      refine ⟨_, _, qs', ts', bs', cn', ?_, h4, ?_⟩
      · unfold fX3_take
        rw [bd1_e a1, if_neg (by decide), bd1_e a2, if_neg (by decide), ep, eq, bd4_e h3]
      · unfold fX4_take
        rw [bd1_e b1, if_neg (by decide), bd1_e b2, if_neg (by decide)]
        unfold fX4_take_J30
        rw [if_pos rfl, iI_l hz1, iI_l hz2, bd2_e (become_ok (nI P) (nI Q) (by omega) (by omega) (by omega))]
    · have a2 := wN iI1 i100k hz2 mid1 mid100k h2
      have b2 := iN lI1 lI100000 hz2 mid1 mid100k h2
      refine Or.inr ⟨?_, ?_⟩
      · unfold tX3_take
        rw [bd1_e a1, if_neg (by decide), bd1_e a2, if_pos rfl]
      · unfold fX4_take
        rw [bd1_e b1, if_neg (by decide), bd1_e b2, if_pos rfl, mtake_J29]
  · have a1 := wN iI0 i100k hz1 mid0 mid100k h1
    have b1 := iN lI0 lI100000 hz1 mid0 mid100k h1
    refine Or.inr ⟨?_, ?_⟩
    · unfold tX3_take
      rw [bd1_e a1, if_pos rfl]
    · unfold fX4_take
      rw [bd1_e b1, if_pos rfl, mtake_J29]
theorem tob {what : Nat} (h : what ≤ 1) (a b : Int32) : fX3_topOrBottom (nI what) a b = some (if what = 0 then a else b) := by
  unfold fX3_topOrBottom
  rcases (show what = 0 ∨ what = 1 by omega) with rfl | rfl
  · rw [if_pos (by decide), if_pos rfl]
  · rw [if_neg (by decide), if_pos (by decide), if_neg (by decide)]
theorem mnear_J39 (mth mtp mbt x1 x2 x3 : Int32) : fX4_near_J39 mtp mbt mth x1 x2 x3 = some (0, 1) := by unfold fX4_near_J39 fX4_near_J40; rw [if_neg (by decide)]
theorem mnear_J40 (mth mtp mbt x1 x2 x3 : Int32) : fX4_near_J40 mtp mbt mth x1 x2 x3 0 = fX4_near_L67 mtp mbt FU 0 x1 x2 x3 0 0 0 0 1 := by unfold fX4_near_J40; rw [if_pos (by decide)]
theorem op_near {P Q : Nat} {qs ts bs : Nat → Int32} {cn : Int32} (h : SOk P Q qs ts bs cn) (mth p1 p2 p3 : Int32) : (∃ r, fX3_near ts bs cn p1 p2 p3 = some r ∧ fX4_near (nI P) (nI Q) mth p1 p2 p3 = some (r, 0)) ∨ (tX3_near p1 p2 p3 = some () ∧ ∃ r, fX4_near (nI P) (nI Q) mth p1 p2 p3 = some (r, 1)) := by
  obtain ⟨z1, hz1, rfl⟩ := iI_of p1
  obtain ⟨z2, hz2, rfl⟩ := iI_of p2
  obtain ⟨z3, hz3, rfl⟩ := iI_of p3
  have hQ := h.1.2.2.2
  by_cases h1 : 1 ≤ z1 ∧ z1 ≤ 1000
  · have a1 := wY iI1 i1k hz1 mid1 mid1k h1
    have b1 := iY lI1 lI1000 hz1 mid1 mid1k h1
    by_cases h2 : 0 ≤ z2 ∧ z2 ≤ 2
    · have a2 := wY iI0 iI2 hz2 mid0 mid2 h2
      have b2 := iY lI0 lI2 hz2 mid0 mid2 h2
      by_cases h3 : 0 ≤ z3 ∧ z3 ≤ 1
      · have a3 := wY iI0 iI1 hz3 mid0 mid1 h3
        have b3 := iY lI0 lI1 hz3 mid0 mid1 h3
        refine Or.inl ?_
        have e4 : fX4_near (nI P) (nI Q) mth (iI z1) (iI z2) (iI z3) = fX4_near_L67 (nI P) (nI Q) FU 0 (iI z1) (iI z2) (iI z3) 0 0 0 0 1 := by
          unfold fX4_near
          rw [bd1_e b1, if_neg (by decide), bd1_e b2, if_neg (by decide), bd1_e b3, if_neg (by decide), mnear_J40]
        have e3 : fX3_near ts bs cn (iI z1) (iI z2) (iI z3) = if iI z1 < nI Q then bd2 (fX0_nearWithin ts bs cn (iI z1) (iI z2)) fun r62_1 r62_2 => bd1 (fX3_topOrBottom (iI z3) r62_1 r62_2) fun r78 => some r78 else bd1 (fX3_part ts bs cn (iI z3)) fun r52 => some r52 := by
          unfold fX3_near
          rw [bd1_e a1, if_neg (by decide), bd1_e a2, if_neg (by decide), bd1_e a3, if_neg (by decide), bd1_e h.bottom]
        rw [e3, e4]
        obtain ⟨n, hn, en⟩ := iI_nat (z := z1) (by omega)
        obtain ⟨way, hw, ew⟩ := iI_nat h2.1
        obtain ⟨what, hwh, ewh⟩ := iI_nat h3.1
        subst hn; subst hw; subst hwh
        rw [en, ew, ewh]
        by_cases hc : n < Q
        · rw [if_pos (nI_lt hc (by omega))]
          obtain ⟨u, v, z, w, hN, hW⟩ := nearWithin_ok h (n := n) (by omega) (by omega) hc
          have hm := mnear_ok (way := way) (what := what) hN h.1 (by omega) (by omega) (by omega)
          by_cases hl : lowN P Q u v z w way
          · rw [bd2_e ((hW way (by omega)).1 hl), bd1_e (tob (by omega) _ _)]
            exact ⟨_, rfl, hm.1 hl⟩
          · rw [bd2_e ((hW way (by omega)).2 hl), bd1_e (tob (by omega) _ _)]
            exact ⟨_, rfl, hm.2 hl⟩
        · rw [if_neg (nI_nlt (by omega) (by omega))]
          have hm := mnear_ok (way := way) (what := what) (NOk.self h.1 (n := n) (by omega)) h.1 (by omega) (by omega) (by omega)
          have hp : fX3_part ts bs cn (nI what) = some (if what = 0 then nI P else nI Q) := by
            unfold fX3_part
            rw [bd1_e h.top, bd1_e h.bottom, bd1_e (tob (by omega) _ _)]
          rw [bd1_e hp]
          by_cases hl : lowN P Q P Q P Q way
          · exact ⟨_, rfl, hm.1 hl⟩
          · exact ⟨_, rfl, hm.2 hl⟩
      · have a3 := wN iI0 iI1 hz3 mid0 mid1 h3
        have b3 := iN lI0 lI1 hz3 mid0 mid1 h3
        refine Or.inr ⟨?_, 0, ?_⟩
        · unfold tX3_near
          rw [bd1_e a1, if_neg (by decide), bd1_e a2, if_neg (by decide), bd1_e a3, if_pos rfl]
        · unfold fX4_near
          rw [bd1_e b1, if_neg (by decide), bd1_e b2, if_neg (by decide), bd1_e b3, if_pos rfl, mnear_J39]
    · have a2 := wN iI0 iI2 hz2 mid0 mid2 h2
      have b2 := iN lI0 lI2 hz2 mid0 mid2 h2
      refine Or.inr ⟨?_, 0, ?_⟩
      · unfold tX3_near
        rw [bd1_e a1, if_neg (by decide), bd1_e a2, if_pos rfl]
      · unfold fX4_near
        rw [bd1_e b1, if_neg (by decide), bd1_e b2, if_pos rfl, mnear_J39]
  · have a1 := wN iI1 i1k hz1 mid1 mid1k h1
    have b1 := iN lI1 lI1000 hz1 mid1 mid1k h1
    refine Or.inr ⟨?_, 0, ?_⟩
    · unfold tX3_near
      rw [bd1_e a1, if_pos rfl]
    · unfold fX4_near
      rw [bd1_e b1, if_pos rfl, mnear_J39]
theorem mbetw_J53 (mth mtp mbt x1 x2 x3 x4 : Int32) : fX4_between_J53 mth mtp mbt x1 x2 x3 x4 = some (0, 1, mtp, mbt) := by
  unfold fX4_between_J53 fX4_between_J54
  rw [if_pos rfl]
  unfold fX4_between_J67
  rw [if_pos (by decide)]
theorem mbetw_J54 (mth mtp mbt x1 x2 x3 x4 : Int32) : fX4_between_J54 mth mtp mbt x1 x2 x3 x4 1 = if (x1 * x4) < (x3 * x2) then fX4_between_L92 FU 0 mtp mbt x1 x2 x3 x4 1 else some (0, 0, mtp, mbt) := by
  unfold fX4_between_J54
  rw [if_neg (by decide)]
  unfold fX4_between_J67
  rw [if_neg (by decide)]
theorem op_between {P Q : Nat} {qs ts bs : Nat → Int32} {cn : Int32} (h : SOk P Q qs ts bs cn) (mth p1 p2 p3 p4 : Int32) : (∃ r P' Q' qs' ts' bs' cn', fX3_between qs ts bs cn p1 p2 p3 p4 = some (r, qs', ts', bs', cn') ∧ SOk P' Q' qs' ts' bs' cn' ∧ fX4_between mth (nI P) (nI Q) p1 p2 p3 p4 = some (r, 0, nI P', nI Q')) ∨ (tX3_between p1 p2 p3 p4 = some () ∧ ∃ r, fX4_between mth (nI P) (nI Q) p1 p2 p3 p4 = some (r, 1, nI P, nI Q)) := by
  obtain ⟨z1, hz1, rfl⟩ := iI_of p1
  obtain ⟨z2, hz2, rfl⟩ := iI_of p2
  obtain ⟨z3, hz3, rfl⟩ := iI_of p3
  obtain ⟨z4, hz4, rfl⟩ := iI_of p4
  by_cases h1 : 0 ≤ z1 ∧ z1 ≤ 5000
  · have a1 := wY iI0 i5k hz1 mid0 mid5k h1
    have b1 := iY lI0 lI5000 hz1 mid0 mid5k h1
    by_cases h2 : 1 ≤ z2 ∧ z2 ≤ 5000
    · have a2 := wY iI1 i5k hz2 mid1 mid5k h2
      have b2 := iY lI1 lI5000 hz2 mid1 mid5k h2
      by_cases h3 : 0 ≤ z3 ∧ z3 ≤ 5000
      · have a3 := wY iI0 i5k hz3 mid0 mid5k h3
        have b3 := iY lI0 lI5000 hz3 mid0 mid5k h3
        by_cases h4 : 1 ≤ z4 ∧ z4 ≤ 5000
        · have a4 := wY iI1 i5k hz4 mid1 mid5k h4
          have b4 := iY lI1 lI5000 hz4 mid1 mid5k h4
          refine Or.inl ?_
          have e4 : fX4_between mth (nI P) (nI Q) (iI z1) (iI z2) (iI z3) (iI z4) = if (iI z1 * iI z4) < (iI z3 * iI z2) then fX4_between_L92 FU 0 (nI P) (nI Q) (iI z1) (iI z2) (iI z3) (iI z4) 1 else some (0, 0, nI P, nI Q) := by
            unfold fX4_between
            rw [bd1_e b1, if_neg (by decide), bd1_e b2, if_neg (by decide), bd1_e b3, if_neg (by decide), bd1_e b4, if_neg (by decide), mbetw_J54]
          have e3 : fX3_between qs ts bs cn (iI z1) (iI z2) (iI z3) (iI z4) = if (iI z1 * iI z4) < (iI z3 * iI z2) then bd4 (fX0_expandSimplest qs ts bs cn (iI z1) (iI z2) (iI z3) (iI z4)) fun qs_76 ts_76 bs_76 cn_76 => some (1, qs_76, ts_76, bs_76, cn_76) else some (0, qs, ts, bs, cn) := by
            unfold fX3_between
            rw [bd1_e a1, if_neg (by decide), bd1_e a2, if_neg (by decide), bd1_e a3, if_neg (by decide), bd1_e a4, if_neg (by decide)]
          rw [e3, e4]
          obtain ⟨p, hp, ep⟩ := iI_nat h1.1
          obtain ⟨q, hq, eq⟩ := iI_nat (z := z2) (by omega)
          obtain ⟨r, hr, er⟩ := iI_nat h3.1
          obtain ⟨s, hs, es⟩ := iI_nat (z := z4) (by omega)
          subst hp; subst hq; subst hr; subst hs
          rw [ep, eq, er, es, pk_mul, pk_mul]
          have m1 : p * s ≤ 5000 * 5000 := Nat.mul_le_mul (by omega) (by omega)
          have m2 : r * q ≤ 5000 * 5000 := Nat.mul_le_mul (by omega) (by omega)
          by_cases hc : p * s < r * q
          · have hc' : nI (p * s) < nI (r * q) := nI_lt hc (by omega)
            rw [if_pos hc', if_pos hc']
            obtain ⟨X, Y, hA, hB⟩ := between_ok (p := p) (q := q) (r := r) (s := s) (by omega) (by omega) (by omega) (by omega) (by omega) hc
            obtain ⟨qs', ts', bs', cn', h5, h6⟩ := hA qs ts bs cn
            rw [bd4_e h5]
            exact ⟨1, X, Y, qs', ts', bs', cn', rfl, h6, hB _ _⟩
          · have hc' : ¬ nI (p * s) < nI (r * q) := nI_nlt (by omega) (by omega)
            rw [if_neg hc', if_neg hc']
            exact ⟨0, P, Q, qs, ts, bs, cn, rfl, h, rfl⟩
        · have a4 := wN iI1 i5k hz4 mid1 mid5k h4
          have b4 := iN lI1 lI5000 hz4 mid1 mid5k h4
          refine Or.inr ⟨?_, 0, ?_⟩
          · unfold tX3_between
            rw [bd1_e a1, if_neg (by decide), bd1_e a2, if_neg (by decide), bd1_e a3, if_neg (by decide), bd1_e a4, if_pos rfl]
          · unfold fX4_between
            rw [bd1_e b1, if_neg (by decide), bd1_e b2, if_neg (by decide), bd1_e b3, if_neg (by decide), bd1_e b4, if_pos rfl, mbetw_J53]
      · have a3 := wN iI0 i5k hz3 mid0 mid5k h3
        have b3 := iN lI0 lI5000 hz3 mid0 mid5k h3
        refine Or.inr ⟨?_, 0, ?_⟩
        · unfold tX3_between
          rw [bd1_e a1, if_neg (by decide), bd1_e a2, if_neg (by decide), bd1_e a3, if_pos rfl]
        · unfold fX4_between
          rw [bd1_e b1, if_neg (by decide), bd1_e b2, if_neg (by decide), bd1_e b3, if_pos rfl, mbetw_J53]
    · have a2 := wN iI1 i5k hz2 mid1 mid5k h2
      have b2 := iN lI1 lI5000 hz2 mid1 mid5k h2
      refine Or.inr ⟨?_, 0, ?_⟩
      · unfold tX3_between
        rw [bd1_e a1, if_neg (by decide), bd1_e a2, if_pos rfl]
      · unfold fX4_between
        rw [bd1_e b1, if_neg (by decide), bd1_e b2, if_pos rfl, mbetw_J53]
  · have a1 := wN iI0 i5k hz1 mid0 mid5k h1
    have b1 := iN lI0 lI5000 hz1 mid0 mid5k h1
    refine Or.inr ⟨?_, 0, ?_⟩
    · unfold tX3_between
      rw [bd1_e a1, if_pos rfl]
    · unfold fX4_between
      rw [bd1_e b1, if_pos rfl, mbetw_J53]

/-! up, check -/
theorem last_eqs {l : List Nat} (h : 0 < l.length) : cH l = l.getD (l.length - 1) 0 * cH (l.take (l.length - 1)) + cP (l.take (l.length - 1)) ∧ cK l = l.getD (l.length - 1) 0 * cK (l.take (l.length - 1)) + cQ (l.take (l.length - 1)) ∧ cP l = cH (l.take (l.length - 1)) ∧ cQ l = cK (l.take (l.length - 1)) := by
  have htk := take_snoc (l := l) (j := l.length - 1) (by omega)
  rw [show l.length - 1 + 1 = l.length by omega, List.take_length] at htk
  have e1 := cH_snoc (l.getD (l.length - 1) 0) (l.take (l.length - 1))
  have e2 := cK_snoc (l.getD (l.length - 1) 0) (l.take (l.length - 1))
  have e3 := cP_snoc (l.getD (l.length - 1) 0) (l.take (l.length - 1))
  have e4 := cQ_snoc (l.getD (l.length - 1) 0) (l.take (l.length - 1))
  rw [← htk] at e1 e2 e3 e4
  exact ⟨e1, e2, e3, e4⟩
theorem c_nz (l : List Nat) : 0 < cK l + cQ l ∧ 0 < cP l + cQ l := by
  have hd := c_det l
  rcases Nat.mod_two_eq_zero_or_one l.length with hp | hp
  · have := hd.1 hp
    refine ⟨?_, ?_⟩
    · rcases Nat.eq_zero_or_pos (cQ l) with h | h
      · rw [h, Nat.mul_zero] at this; omega
      · omega
    · rcases Nat.eq_zero_or_pos (cQ l) with h | h
      · rw [h, Nat.mul_zero] at this; omega
      · omega
  · have := hd.2 hp
    refine ⟨?_, ?_⟩
    · rcases Nat.eq_zero_or_pos (cK l) with h | h
      · rw [h, Nat.mul_zero] at this; omega
      · omega
    · rcases Nat.eq_zero_or_pos (cP l) with h | h
      · rw [h, Nat.zero_mul] at this; omega
      · omega
theorem up_facts {P Q : Nat} (h : Inv P Q) (h0 : 0 < P) (hne : P ≠ Q) : cP (cf P Q) + cQ (cf P Q) < (P - cP (cf P Q)) + (Q - cQ (cf P Q)) ∧ cP (cf P Q) ≤ P ∧ cQ (cf P Q) < Q ∧ Nat.gcd (P - cP (cf P Q)) (Q - cQ (cf P Q)) = 1 := by
  obtain ⟨-, -, hf, -⟩ := cf_f0 h h0
  obtain ⟨e1, e2, e3, e4⟩ := last_eqs (l := cf P Q) (by omega)
  have hl2 := cf_last2 h h0 hne
  have hz := c_nz ((cf P Q).take ((cf P Q).length - 1))
  obtain ⟨g1, g2⟩ := cPQ_le h h0
  obtain ⟨a1, a2, a3, a4⟩ := fe_ok g1 g2
  have m1 := Nat.mul_le_mul_right (cH ((cf P Q).take ((cf P Q).length - 1))) hl2
  have m2 := Nat.mul_le_mul_right (cK ((cf P Q).take ((cf P Q).length - 1))) hl2
  have key : Nat.gcd (cH (cf P Q) - cP (cf P Q)) (cK (cf P Q) - cQ (cf P Q)) = 1 := by
    unfold feT feB at a3
    unfold geT geB at a4
    rcases Nat.mod_two_eq_zero_or_one (cf P Q).length with hp | hp
    · simp only [hp, if_true] at a3 a4
      refine gcd1_of (x := cQ (cf P Q)) (y := cP (cf P Q)) ?_
      rw [Int.natCast_sub g1, Int.natCast_sub g2]; grind
    · have hn : ¬ (cf P Q).length % 2 = 0 := by omega
      simp only [hn, if_false] at a3 a4
      rw [Nat.gcd_comm]
      refine gcd1_of (x := cP (cf P Q)) (y := cQ (cf P Q)) ?_
      rw [Int.natCast_sub g1, Int.natCast_sub g2]; grind
  rw [cf_cH h.1, cf_cK h.1] at key
  rw [cf_cH h.1] at e1 g1
  rw [cf_cK h.1] at e2 g2
  refine ⟨by omega, g1, by omega, key⟩
theorem op_up {P Q : Nat} {qs ts bs : Nat → Int32} {cn : Int32} (h : SOk P Q qs ts bs cn) (mth mrs : Int32) (mru : Nat → Int32) (a b c d : Int64) : ∃ r P' Q' qs' ts' bs' cn' mrs' mru' a' b' c' d', fX3_up qs ts bs cn = some (r, qs', ts', bs', cn') ∧ SOk P' Q' qs' ts' bs' cn' ∧ fX4_up mth (nI P) (nI Q) mrs mru a b c d = some (r, 0, nI P', nI Q', mrs', mru', a', b', c', d') := by
  have hl := h.1.2
  have hlen := h.len
  unfold fX3_up fX4_up
  rw [bd1_e h.countRuns]
  by_cases h0 : P = 0
  · subst h0
    rw [if_pos rfl, if_pos rfl, if_pos (by decide)]
    exact ⟨_, 0, Q, _, _, _, _, _, _, _, _, _, _, rfl, h, rfl⟩
  · rw [if_neg h0]
    have h0 : 0 < P := by omega
    rw [if_neg (nI_ne0 h0 (by omega))]
    by_cases he : P = Q
    · obtain ⟨rfl, rfl⟩ := inv_eq h.1 he
      have hr : nI (nR 1 1) = 0 := by decide
      rw [if_pos hr, if_pos (by decide), if_pos (by decide)]
      exact ⟨_, 1, 1, _, _, _, _, _, _, _, _, _, _, rfl, h, rfl⟩
    · obtain ⟨-, -, hf, -⟩ := cf_f0 h.1 h0
      have hnR : nR P Q = (cf P Q).length - f0 (cf P Q) := by unfold nR; rw [if_neg he]
      obtain ⟨mru', e, hm⟩ := walk_ok h.1 h0 mrs mru a b c d
      obtain ⟨u1, u2, u3, u4⟩ := up_facts h.1 h0 he
      obtain ⟨g1, g2⟩ := cPQ_le h.1 h0
      have hinv : Inv (P - cP (cf P Q)) (Q - cQ (cf P Q)) := ⟨u4, by omega, by omega, by omega⟩
      obtain ⟨qs', ts', bs', cn', ex, hx⟩ := expand_S1 qs ts bs cn hinv
      have hJ : fX4_up_J30 0 (nI P) (nI Q) mrs mru a b c d = some (1, 0, nI (P - cP (cf P Q)), nI (Q - cQ (cf P Q)), nI (nR P Q), mru', lI (feT (cf P Q)), lI (feB (cf P Q)), lI (geT (cf P Q)), lI (geB (cf P Q))) := by
        unfold fX4_up_J30
        rw [bd6_e e, lI_add, lI_add]
        have cH' := cf_cH h.1.1
        have cK' := cf_cK h.1.1
        have fT : feT (cf P Q) + feB (cf P Q) < 1000000 ∧ geT (cf P Q) + geB (cf P Q) < 1000000 := by
          unfold feT feB geT geB; rw [cH', cK']; split <;> omega
        have q1 : big ((feT (cf P Q) : Int) + feB (cf P Q)) := ⟨by omega, by omega⟩
        have q2 : big ((geT (cf P Q) : Int) + geB (cf P Q)) := ⟨by omega, by omega⟩
        rcases Nat.mod_two_eq_zero_or_one (cf P Q).length with hp | hp
        · have t1 : feT (cf P Q) = cP (cf P Q) := by unfold feT; rw [if_pos hp]
          have t2 : feB (cf P Q) = cQ (cf P Q) := by unfold feB; rw [if_pos hp]
          have t3 : geT (cf P Q) = P - cP (cf P Q) := by unfold geT; rw [if_pos hp, cH']
          have t4 : geB (cf P Q) = Q - cQ (cf P Q) := by unfold geB; rw [if_pos hp, cK']
          rw [if_pos ((lc_le q1 q2).mpr (by omega))]
          unfold fX4_up_J61 fX4_up_J78
          rw [if_pos rfl, nm_x, if_pos rfl, nm_x, lI_i, lI_i, t3, t4, ← nI_iI, ← nI_iI]
        · have hn : ¬ (cf P Q).length % 2 = 0 := by omega
          have t1 : geT (cf P Q) = cP (cf P Q) := by unfold geT; rw [if_neg hn]
          have t2 : geB (cf P Q) = cQ (cf P Q) := by unfold geB; rw [if_neg hn]
          have t3 : feT (cf P Q) = P - cP (cf P Q) := by unfold feT; rw [if_neg hn, cH']
          have t4 : feB (cf P Q) = Q - cQ (cf P Q) := by unfold feB; rw [if_neg hn, cK']
          rw [if_neg (fun hh => by have := (lc_le q1 q2).mp hh; omega)]
          unfold fX4_up_J61 fX4_up_J78
          rw [if_neg (by decide), nm_x, if_neg (by decide), nm_x, lI_i, lI_i, t3, t4, ← nI_iI, ← nI_iI]
      have hM : (if nI P = 1 then if nI Q = 1 then some ((0 : Int32), (0 : Int32), nI P, nI Q, mrs, mru, a, b, c, d) else fX4_up_J30 0 (nI P) (nI Q) mrs mru a b c d else fX4_up_J30 0 (nI P) (nI Q) mrs mru a b c d) = fX4_up_J30 0 (nI P) (nI Q) mrs mru a b c d := by
        by_cases hp : nI P = 1
        · rw [if_pos hp]
          by_cases hq : nI Q = 1
          · rw [nI1] at hp hq
            have w1 := (nI_eq (by omega) (by omega)).mp hp
            have w2 := (nI_eq (by omega) (by omega)).mp hq
            omega
          · rw [if_neg hq]
        · rw [if_neg hp]
      have tp : fX0_topBefore ts cn = some (nI (cP (cf P Q))) := h.2.topBefore
      have bp : fX0_bottomBefore bs cn = some (nI (cQ (cf P Q))) := h.2.bottomBefore
      rw [hM, hJ, if_neg (nI_ne0 (by omega) (by omega)), bd1_e h.top, bd1_e tp, bd1_e h.bottom, bd1_e bp, pk_sub u2, pk_sub (by omega), bd4_e ex]
      exact ⟨_, _, _, _, _, _, _, _, _, _, _, _, _, rfl, hx, rfl⟩
theorem step_mid {l : List Nat} {j : Nat} (hj : j < l.length) : (j % 2 = 0 → loT l (j + 1) = loT l j + l.getD j 0 * hiT l j ∧ loB l (j + 1) = loB l j + l.getD j 0 * hiB l j ∧ hiT l (j + 1) = hiT l j ∧ hiB l (j + 1) = hiB l j) ∧ (j % 2 = 1 → hiT l (j + 1) = hiT l j + l.getD j 0 * loT l j ∧ hiB l (j + 1) = hiB l j + l.getD j 0 * loB l j ∧ loT l (j + 1) = loT l j ∧ loB l (j + 1) = loB l j) := by
  have htk := take_snoc hj
  have e1 : cH (l.take (j + 1)) = l.getD j 0 * cH (l.take j) + cP (l.take j) := by rw [htk, cH_snoc]
  have e2 : cK (l.take (j + 1)) = l.getD j 0 * cK (l.take j) + cQ (l.take j) := by rw [htk, cK_snoc]
  have e3 : cP (l.take (j + 1)) = cH (l.take j) := by rw [htk, cP_snoc]
  have e4 : cQ (l.take (j + 1)) = cK (l.take j) := by rw [htk, cQ_snoc]
  unfold loT loB hiT hiB
  refine ⟨fun hp => ?_, fun hp => ?_⟩
  · have hn : ¬ (j + 1) % 2 = 0 := by omega
    simp only [hp, hn, if_true, if_false]
    exact ⟨by rw [e1, Nat.add_comm], by rw [e2, Nat.add_comm], e3, e4⟩
  · have hn : ¬ j % 2 = 0 := by omega
    have hq : (j + 1) % 2 = 0 := by omega
    simp only [hn, hq, if_true, if_false]
    exact ⟨by rw [e1, Nat.add_comm], by rw [e2, Nat.add_comm], e3, e4⟩
theorem step_last {l : List Nat} {j : Nat} (hj : j + 1 = l.length) (ha : 1 ≤ l.getD j 0) : (j % 2 = 0 → feT l = loT l j + (l.getD j 0 - 1) * hiT l j ∧ feB l = loB l j + (l.getD j 0 - 1) * hiB l j ∧ geT l = hiT l j ∧ geB l = hiB l j) ∧ (j % 2 = 1 → geT l = hiT l j + (l.getD j 0 - 1) * loT l j ∧ geB l = hiB l j + (l.getD j 0 - 1) * loB l j ∧ feT l = loT l j ∧ feB l = loB l j) := by
  obtain ⟨e1, e2, e3, e4⟩ := last_eqs (l := l) (by omega)
  rw [show l.length - 1 = j by omega] at e1 e2 e3 e4
  obtain ⟨g, hg⟩ : ∃ g, l.getD j 0 = g + 1 := ⟨l.getD j 0 - 1, by omega⟩
  rw [hg, Nat.add_mul, Nat.one_mul] at e1 e2
  unfold loT loB hiT hiB feT feB geT geB
  rw [hg, Nat.add_sub_cancel]
  refine ⟨fun hp => ?_, fun hp => ?_⟩
  · have hn : ¬ l.length % 2 = 0 := by omega
    simp only [hp, hn, if_true, if_false]
    refine ⟨by omega, by omega, e3, e4⟩
  · have hn : ¬ j % 2 = 0 := by omega
    have hq : l.length % 2 = 0 := by omega
    simp only [hn, hq, if_true, if_false]
    refine ⟨by omega, by omega, e3, e4⟩

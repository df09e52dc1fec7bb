/-! near: the class -/
theorem lower_ok {P Q n u v z w : Nat} {qs ts bs : Nat → Int32} {cn : Int32} (h : SOk P Q qs ts bs cn) (hN : NOk P Q n u v z w) (hn : n ≤ 1000) : (low2 P Q u v z w → fX0_isLowerNearer ts bs cn (nI u) (nI v) (nI z) (nI w) = some 1) ∧ (¬ low2 P Q u v z w → fX0_isLowerNearer ts bs cn (nI u) (nI v) (nI z) (nI w) = some 0) := by
  have hlim := h.1.2
  obtain ⟨s1, s2⟩ := hN.small h.1 hn
  have hv2 := hN.2.1
  have hw2 := hN.2.2.2.1
  have e1 : ((P : Int) * v - Q * u) * w = ((P : Int) * v - u * Q) * w := by rw [Int.mul_comm (Q : Int) u]
  have e2 : ((Q : Int) * z - P * w) * v = ((z : Int) * Q - P * w) * v := by rw [Int.mul_comm (Q : Int) z]
  have hbeg : fX0_isLowerNearer ts bs cn (nI u) (nI v) (nI z) (nI w) = if lg_cmp (lI (((P : Int) * v - u * Q) * w)) (lI (((z : Int) * Q - P * w) * v)) < 0 then some 1 else if lg_cmp (lI (((P : Int) * v - u * Q) * w)) (lI (((z : Int) * Q - P * w) * v)) = 0 then (if nI w < nI v then some 0 else some 1) else some 0 := by
    unfold fX0_isLowerNearer
    rw [bd1_e h.top, bd1_e h.bottom, nm_x, bd1_e h.bottom, bd1_e h.top, nm_x, nI_L (by omega), nI_L (by omega), nI_L (by omega), nI_L (by omega), nI_L (by omega), nI_L (by omega), lI_mul, lI_mul, lI_sub, lI_mul, lI_mul, lI_mul, lI_sub, lI_mul, e1, e2]
  rw [hbeg]
  exact low_cmp hN h.1 hn s2 s1 (some 1) (some 0) _ _ (nI w < nI v) (by rw [nI_ltI (by omega) (by omega)]; omega) rfl rfl
theorem near_J112 {P Q n u v z w way : Nat} {qs ts bs : Nat → Int32} {cn : Int32} (h : SOk P Q qs ts bs cn) (hN : NOk P Q n u v z w) (hn : n ≤ 1000) (hway : way ≤ 2) (y0 : Int32) (a b c d : Int32) (hy : (y0 = 1 ∧ a = nI u ∧ b = nI v ∧ c = nI z ∧ d = nI w) ∨ (y0 = 0 ∧ a = nI z ∧ b = nI w ∧ c = nI u ∧ d = nI v)) : (lowN P Q u v z w way → fX0_nearWithin_J112 ts bs cn (nI way) y0 a b c d = some (nI u, nI v)) ∧ (¬ lowN P Q u v z w way → fX0_nearWithin_J112 ts bs cn (nI way) y0 a b c d = some (nI z, nI w)) := by
  have hlo := lower_ok h hN hn
  have h10 : ¬ (1 : Int32) = 0 := by decide
  have key : fX0_nearWithin_J112 ts bs cn (nI way) y0 a b c d = if nI way = 2 then (bd1 (fX0_isLowerNearer ts bs cn (nI u) (nI v) (nI z) (nI w)) fun r152 => if r152 = 0 then some (nI z, nI w) else some (nI u, nI v)) else if nI way = 0 then some (nI u, nI v) else some (nI z, nI w) := by
    unfold fX0_nearWithin_J112
    rcases hy with ⟨rfl, rfl, rfl, rfl, rfl⟩ | ⟨rfl, rfl, rfl, rfl, rfl⟩
    · rw [if_neg h10, if_neg h10]
    · rw [if_pos rfl, if_pos rfl]
  rw [key]
  unfold lowN
  rcases (by omega : way = 0 ∨ way = 1 ∨ way = 2) with rfl | rfl | rfl
  · rw [if_neg (by decide), if_pos (by decide)]
    exact ⟨fun _ => rfl, fun h => absurd (Or.inl rfl) h⟩
  · rw [if_neg (by decide), if_neg (by decide)]
    refine ⟨fun h => ?_, fun _ => rfl⟩
    rcases h with h | h
    · omega
    · omega
  · rw [if_pos (by decide)]
    refine ⟨fun h => ?_, fun h => ?_⟩
    · rcases h with h | h
      · omega
      · rw [bd1_e (hlo.1 h.2), if_neg h10]
    · rw [bd1_e (hlo.2 (fun h9 => h (Or.inr ⟨rfl, h9⟩))), if_pos rfl]
theorem nearWithin_ok {P Q n : Nat} {qs ts bs : Nat → Int32} {cn : Int32} (h : SOk P Q qs ts bs cn) (hn0 : 1 ≤ n) (hn : n ≤ 1000) (hnQ : n < Q) : ∃ u v z w, NOk P Q n u v z w ∧ ∀ way, way ≤ 2 → (lowN P Q u v z w way → fX0_nearWithin ts bs cn (nI n) (nI way) = some (nI u, nI v)) ∧ (¬ lowN P Q u v z w way → fX0_nearWithin ts bs cn (nI n) (nI way) = some (nI z, nI w)) := by
  have hlim := h.1.2
  have hlen := h.len
  obtain ⟨tl, et, ht⟩ := cf_tail1 P hlim.2.1
  have hlpos : 1 ≤ (cf P Q).length := by rw [et]; simp
  have hk1 : cK ((cf P Q).take 1) = 1 := by rw [et]; simp [cK_cons, cH_nil]
  obtain ⟨a, ea, ha1, hal, hka, hjn⟩ := last_loop h.2 hn (fun i hi1 _ => Nat.le_trans (cf_take_le h.1 hi1).2 hlim.2.2) ((cf P Q).length - 1) 2 FU 1 (by omega) (by rw [FU_pos]; omega) (by omega) (by omega) (by omega) (by omega) (fun j h1 h2 => by omega)
  have hlt : a < (cf P Q).length := by
    rcases Nat.lt_or_ge a (cf P Q).length with h9 | h9
    · exact h9
    · have : a = (cf P Q).length := by omega
      rw [this, List.take_length, cf_cK h.1.1] at hka
      omega
  have hka1 := hjn (a + 1) (by omega) (by omega)
  obtain ⟨a', rfl⟩ : ∃ a', a = a' + 1 := ⟨a - 1, by omega⟩
  have htk := take_snoc (l := cf P Q) (j := a') (by omega)
  have htk1 := take_snoc (l := cf P Q) (j := a' + 1) (by omega)
  have eP : cP ((cf P Q).take (a' + 1)) = cH ((cf P Q).take a') := by rw [htk, cP_snoc]
  have eQ : cQ ((cf P Q).take (a' + 1)) = cK ((cf P Q).take a') := by rw [htk, cQ_snoc]
  have eK1 : cK ((cf P Q).take (a' + 1 + 1)) = (cf P Q).getD (a' + 1) 0 * cK ((cf P Q).take (a' + 1)) + cQ ((cf P Q).take (a' + 1)) := by rw [htk1, cK_snoc]
  have hge : ∀ j, 1 ≤ j → j < (cf P Q).length → 1 ≤ (cf P Q).getD j 0 := fun j hj1 hj2 => by
    obtain ⟨j', rfl⟩ : ∃ j', j = j' + 1 := ⟨j - 1, by omega⟩
    have hm : (cf P Q).getD (j' + 1) 0 ∈ tl := by
      rw [et] at hj2 ⊢
      rw [List.length_cons] at hj2
      rw [List.getD_cons_succ, List.getD_eq_getElem?_getD, List.getElem?_eq_getElem (by omega)]
      exact List.getElem_mem _
    exact ht _ hm
  have hK0 : 0 < cK ((cf P Q).take (a' + 1)) := by
    have h9 := c_app_le (((cf P Q).take (a' + 1)).drop 1) (((cf P Q).take (a' + 1)).take 1) (fun x hx => by
      rw [et, List.take_succ_cons, List.drop_succ_cons, List.drop_zero] at hx
      exact ht x (List.mem_of_mem_take hx))
    rw [List.take_append_drop] at h9
    have h8 : cK (((cf P Q).take (a' + 1)).take 1) = 1 := by rw [et, List.take_succ_cons]; simp [cK_cons, cH_nil]
    omega
  have hQn : cQ ((cf P Q).take (a' + 1)) ≤ n := by
    rw [eQ]
    rcases Nat.eq_zero_or_pos a' with hz | hz
    · rw [hz, List.take_zero, cK_nil]; omega
    · have e9 : cK ((cf P Q).take (a' + 1)) = (cf P Q).getD a' 0 * cK ((cf P Q).take a') + cQ ((cf P Q).take a') := by rw [htk, cK_snoc]
      have := Nat.le_mul_of_pos_left (cK ((cf P Q).take a')) (hge a' hz (by omega))
      omega
  have hapP := c_app ((cf P Q).take (a' + 1)) ((cf P Q).drop (a' + 1))
  rw [List.take_append_drop, cf_cH h.1.1, cf_cK h.1.1] at hapP
  have hdc := drop_cons' (l := cf P Q) (j := a' + 1) (by omega)
  have hy1 := cH_pos1 ((cf P Q).drop (a' + 1 + 1)) (fun x hx => by
    rw [et, List.drop_succ_cons] at hx
    exact ht x (List.mem_of_mem_drop hx))
  have hx0 : cH ((cf P Q).drop (a' + 1)) = (cf P Q).getD (a' + 1) 0 * cH ((cf P Q).drop (a' + 1 + 1)) + cK ((cf P Q).drop (a' + 1 + 1)) := by rw [hdc, cH_cons]
  have hy0 : cK ((cf P Q).drop (a' + 1)) = cH ((cf P Q).drop (a' + 1 + 1)) := by rw [hdc, cK_cons]
  have hdet := c_det ((cf P Q).take (a' + 1))
  have hal2 : ((cf P Q).take (a' + 1)).length = a' + 1 := by rw [List.length_take]; omega
  rw [hal2] at hdet
  have lH := (cf_take_le (j := a' + 1) h.1 (by omega)).1
  have hta := h.2.2.2.2 (a' + 1) (by omega)
  have hta' := h.2.2.2.2 a' (by omega)
  rw [← eP, ← eQ] at hta'
  have hfirst : ∀ way : Int32, fX0_nearWithin ts bs cn (nI n) way = fX0_nearWithin_J55 ts bs cn way (nI (a' + 1)) (nI ((n - cQ ((cf P Q).take (a' + 1))) / cK ((cf P Q).take (a' + 1)))) (nI (cH ((cf P Q).take (a' + 1)))) (nI (cK ((cf P Q).take (a' + 1)))) := fun way => by
    unfold fX0_nearWithin
    have e9 : fX0_lastWithin bs cn (nI n) = some (nI (a' + 1)) := ea
    rw [bd1_e e9, ck_in (by omega) (by decide), ck_in (by omega) (by decide), nI_clamp (by omega), hta.1, hta.2, bd2_e (init_ok _ _), if_neg (nI_nle hK0 (by omega)), nI_pred, ck_in (by omega) (by decide), ckZ_n hK0 (by omega), nI_clamp (by omega), hta'.2, pk_sub hQn, pk_div (by omega) hK0 (by omega)]
  have hJ55 : ∀ (way y : Int32) (t : Nat), y = nI t → fX0_nearWithin_J55 ts bs cn way (nI (a' + 1)) y (nI (cH ((cf P Q).take (a' + 1)))) (nI (cK ((cf P Q).take (a' + 1)))) = fX0_nearWithin_J112 ts bs cn way (if (a' + 1) % 2 = 1 then 1 else 0) (nI (cH ((cf P Q).take (a' + 1)))) (nI (cK ((cf P Q).take (a' + 1)))) (nI (cP ((cf P Q).take (a' + 1)) + t * cH ((cf P Q).take (a' + 1)))) (nI (cQ ((cf P Q).take (a' + 1)) + t * cK ((cf P Q).take (a' + 1)))) := fun way y t hy => by
    unfold fX0_nearWithin_J55
    rw [nI_pred, ck_in (by omega) (by decide), ck_in (by omega) (by decide), nI_clamp (by omega), hta'.1, hta'.2, bd2_e (init_ok _ _), ckZ2, rem2 (by omega), hy, pk_mul, pk_mul, nI_add, nI_add]
    rcases Nat.mod_two_eq_zero_or_one (a' + 1) with hp | hp
    · rw [hp, if_neg (by decide), if_neg (by decide)]
    · rw [hp, if_pos (by decide), if_pos rfl]
  generalize hAt : (cf P Q).take (a' + 1) = A at *
  generalize hxx : cH ((cf P Q).drop (a' + 1)) = x at *
  generalize hyy : cK ((cf P Q).drop (a' + 1)) = y at *
  have htm := Nat.div_mul_le_self (n - cQ A) (cK A)
  have htm2 := Nat.lt_div_mul_add hK0 (a := n - cQ A)
  generalize hT : (n - cQ A) / cK A = t at *
  have hta2 : t < (cf P Q).getD (a' + 1) 0 := by
    have : t * cK A < (cf P Q).getD (a' + 1) 0 * cK A := by omega
    exact Nat.lt_of_mul_lt_mul_right this
  have hxy : t * y < x := by
    have h8 : (t + 1) * y ≤ (cf P Q).getD (a' + 1) 0 * y := Nat.mul_le_mul_right _ hta2
    rw [Nat.add_mul, Nat.one_mul] at h8
    rw [← hy0] at hx0
    omega
  have hyp : 0 < y := by omega
  obtain ⟨pP, pQ⟩ := hapP
  have hwt : 0 < cQ A + t * cK A := by
    rcases Nat.eq_zero_or_pos (cQ A) with hz | hz
    · rw [hz] at htm2
      have : 0 < t := by
        rcases Nat.eq_zero_or_pos t with hz2 | hz2
        · rw [hz2, Nat.zero_mul] at htm2
          rcases Nat.mod_two_eq_zero_or_one (a' + 1) with hp | hp
          · have := hdet.1 hp; rw [hz, Nat.mul_zero] at this; omega
          · have := hdet.2 hp
            rw [hz, Nat.mul_zero] at this
            have h7 : cK A = 1 := Nat.eq_one_of_mul_eq_one_left this
            omega
        · exact hz2
      have := Nat.mul_pos this hK0
      omega
    · omega
  have pPi : (P : Int) = cH A * x + cP A * y := by rw [pP]; push_cast; rfl
  have pQi : (Q : Int) = cK A * x + cQ A * y := by rw [pQ]; push_cast; rfl
  have hxyi : (t : Int) * y < x := by exact_mod_cast hxy
  have hypi : (0 : Int) < y := by omega
  rcases Nat.mod_two_eq_zero_or_one (a' + 1) with hp | hp
  · have hd := hdet.1 hp
    have hdi : (cH A : Int) * cQ A = cP A * cK A + 1 := by exact_mod_cast hd
    have hN : NOk P Q n (cP A + t * cH A) (cQ A + t * cK A) (cH A) (cK A) := by
      refine NOk.adj hwt (by omega) hK0 hka (by omega) ?_ ?_ ?_ hlim.2.1
      · have e3 : cH A * (cQ A + t * cK A) = cH A * cQ A + t * cH A * cK A := by grind
        have e4 : (cP A + t * cH A) * cK A = cP A * cK A + t * cH A * cK A := by grind
        omega
      · have : ((cP A + t * cH A : Nat) : Int) * Q < P * ((cQ A + t * cK A : Nat) : Int) := by
          have e5 : (P : Int) * ((cQ A + t * cK A : Nat) : Int) - ((cP A + t * cH A : Nat) : Int) * Q = (x - t * y) * ((cH A : Int) * cQ A - cP A * cK A) := by rw [pPi, pQi]; push_cast; grind
          have e6 : (cH A : Int) * cQ A - cP A * cK A = 1 := by omega
          rw [e6] at e5
          omega
        exact_mod_cast this
      · have : (P : Int) * cK A < cH A * Q := by
          have e5 : (cH A : Int) * Q - P * cK A = y * ((cH A : Int) * cQ A - cP A * cK A) := by rw [pPi, pQi]; grind
          have e6 : (cH A : Int) * cQ A - cP A * cK A = 1 := by omega
          rw [e6] at e5
          omega
        exact_mod_cast this
    refine ⟨_, _, _, _, hN, fun way hway => ?_⟩
    rw [hfirst, hJ55 _ _ t rfl, if_neg (by omega)]
    exact near_J112 h hN hn hway _ _ _ _ _ (Or.inr ⟨rfl, rfl, rfl, rfl, rfl⟩)
  · have hd := hdet.2 hp
    have hdi : (cP A : Int) * cK A = cH A * cQ A + 1 := by exact_mod_cast hd
    have hN : NOk P Q n (cH A) (cK A) (cP A + t * cH A) (cQ A + t * cK A) := by
      refine NOk.adj hK0 hka hwt (by omega) (by omega) ?_ ?_ ?_ hlim.2.1
      · have e3 : cH A * (cQ A + t * cK A) = cH A * cQ A + t * cH A * cK A := by grind
        have e4 : (cP A + t * cH A) * cK A = cP A * cK A + t * cH A * cK A := by grind
        omega
      · have : (cH A : Int) * Q < P * cK A := by
          have e5 : (P : Int) * cK A - cH A * Q = y * ((cP A : Int) * cK A - cH A * cQ A) := by rw [pPi, pQi]; grind
          have e6 : (cP A : Int) * cK A - cH A * cQ A = 1 := by omega
          rw [e6] at e5
          omega
        exact_mod_cast this
      · have : (P : Int) * ((cQ A + t * cK A : Nat) : Int) < ((cP A + t * cH A : Nat) : Int) * Q := by
          have e5 : ((cP A + t * cH A : Nat) : Int) * Q - P * ((cQ A + t * cK A : Nat) : Int) = (x - t * y) * ((cP A : Int) * cK A - cH A * cQ A) := by rw [pPi, pQi]; push_cast; grind
          have e6 : (cP A : Int) * cK A - cH A * cQ A = 1 := by omega
          rw [e6] at e5
          omega
        exact_mod_cast this
    refine ⟨_, _, _, _, hN, fun way hway => ?_⟩
    rw [hfirst, hJ55 _ _ t rfl, if_pos hp]
    exact near_J112 h hN hn hway _ _ _ _ _ (Or.inl ⟨rfl, rfl, rfl, rfl, rfl⟩)

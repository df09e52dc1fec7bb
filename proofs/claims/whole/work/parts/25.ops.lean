/-! convergent; take -/
theorem cf_all1 : ∀ p q : Nat, q ≤ p → ∀ x ∈ cf p q, 1 ≤ x := by
  refine cf_ind ?_ ?_
  · intro p _ x hx; rw [cf_zero] at hx; simp at hx
  · intro p q hq ih h x hx
    rw [cf_pos p hq] at hx
    rcases List.mem_cons.mp hx with rfl | hx
    · exact Nat.div_pos h hq
    · exact ih (Nat.le_of_lt (Nat.mod_lt _ hq)) x hx
theorem cf_tail1 (p : Nat) {q : Nat} (hq : 0 < q) : ∃ t, cf p q = p / q :: t ∧ ∀ x ∈ t, 1 ≤ x := ⟨_, cf_pos p hq, cf_all1 _ _ (Nat.le_of_lt (Nat.mod_lt _ hq))⟩
theorem cf_le : ∀ p q : Nat, ∀ x ∈ cf p q, x ≤ p ∨ x ≤ q := by
  refine cf_ind ?_ ?_
  · intro p x hx; rw [cf_zero] at hx; simp at hx
  · intro p q hq ih x hx
    rw [cf_pos p hq] at hx
    rcases List.mem_cons.mp hx with rfl | hx
    · exact Or.inl (Nat.div_le_self _ _)
    · have := Nat.mod_lt p hq
      rcases ih x hx with h | h
      · exact Or.inr h
      · exact Or.inr (by omega)
theorem c_app_le : ∀ (s l : List Nat), (∀ x ∈ s, 1 ≤ x) → cH l ≤ cH (l ++ s) ∧ cK l ≤ cK (l ++ s)
  | [], l, _ => by simp
  | x :: s, l, h => by
    have h1 := c_app_le s (l ++ [x]) (fun y hy => h y (List.mem_cons_of_mem _ hy))
    rw [List.append_assoc] at h1
    have hx : 1 ≤ x := h x List.mem_cons_self
    have a1 := Nat.le_mul_of_pos_left (cH l) hx
    have a2 := Nat.le_mul_of_pos_left (cK l) hx
    have a3 := cH_snoc x l
    have a4 := cK_snoc x l
    have h2 : cH (l ++ [x]) ≤ cH (l ++ x :: s) := h1.1
    have h3 : cK (l ++ [x]) ≤ cK (l ++ x :: s) := h1.2
    omega
/-- a prefix's convergent isn't larger -/
theorem cf_take_le {P Q j : Nat} (h : Inv P Q) (hj : 1 ≤ j) : cH ((cf P Q).take j) ≤ P ∧ cK ((cf P Q).take j) ≤ Q := by
  obtain ⟨t, e, ht⟩ := cf_tail1 P h.2.2.1
  have h1 := c_app_le ((cf P Q).drop j) ((cf P Q).take j) (fun x hx => by
    obtain ⟨j', rfl⟩ : ∃ j', j = j' + 1 := ⟨j - 1, by omega⟩
    rw [e, List.drop_succ_cons] at hx
    exact ht x (List.mem_of_mem_drop hx))
  rw [List.take_append_drop, cf_cH h.1, cf_cK h.1] at h1
  exact h1
theorem conv_loop (mtp mbt mth mmn w : Int32) (mte : Nat → Int32) (l : List Nat) (hl : l.length ≤ 64) (hm : ∀ i, i < l.length → mte i = nI (l.getD i 0)) (hb : ∀ x ∈ l, x ≤ 100000) (hH : cH l ≤ 100000) (hK : cK l ≤ 100000) : ∀ (k fu : Nat), k < fu → k ≤ l.length →
    fX4_convergent_L48 mtp mbt fu mth mmn mte w (lI (cH (l.drop k))) (lI (cK (l.drop k))) (iI ((k : Int) - 1)) = some (if w = 0 then nI (cH l) else nI (cK l), mth, mmn, mte) := by
  intro k
  induction k with
  | zero =>
    intro fu hf hk
    cases fu with
    | zero => omega
    | succ fu =>
      show fX4_convergent_B48 (fX4_convergent_L48 mtp mbt fu) mtp mbt mth mmn mte w (lI (cH (l.drop 0))) (lI (cK (l.drop 0))) (iI (((0 : Nat) : Int) - 1)) = _
      unfold fX4_convergent_B48
      have h0 : iI (((0 : Nat) : Int) - 1) < 0 := by decide
      rw [if_pos h0, List.drop_zero, bd1_e (common_ok (by omega) (by omega)), c_cop]
      have e1 : ∀ x : Nat, x ≤ 100000 → (lI x / lI ((1 : Nat) : Int)).toInt32 = nI x := fun x hx => by
        rw [lI_div (by omega) (by omega) (by omega) (by omega), lI_i, nI_iI]; congr 1; omega
      rw [e1 _ hH, e1 _ hK, ckL_n (by omega) ⟨by omega, by omega⟩, ckL_n (by omega) ⟨by omega, by omega⟩]
      by_cases hw : w = 0
      · rw [if_pos hw, if_pos hw]
      · rw [if_neg hw, if_neg hw]
  | succ k ih =>
    intro fu hf hk
    cases fu with
    | zero => omega
    | succ fu =>
      have hx : l.getD k 0 ≤ 100000 := by
        rw [List.getD_eq_getElem?_getD, List.getElem?_eq_getElem (by omega)]
        exact hb _ (List.getElem_mem _)
      have hd : l.drop k = l.getD k 0 :: l.drop (k + 1) := by
        rw [List.drop_eq_getElem_cons (by omega), List.getD_eq_getElem?_getD, List.getElem?_eq_getElem (by omega)]; rfl
      show fX4_convergent_B48 (fX4_convergent_L48 mtp mbt fu) mtp mbt mth mmn mte w (lI (cH (l.drop (k + 1)))) (lI (cK (l.drop (k + 1)))) (iI (((k + 1 : Nat) : Int) - 1)) = _
      unfold fX4_convergent_B48
      have e0 : iI (((k + 1 : Nat) : Int) - 1) = nI k := by rw [nI_iI]; congr 1; omega
      rw [e0, if_neg (nI_pos (by omega)), ck_in (by omega) (by decide), nI_clamp (by omega), hm k (by omega), nm_x, nm_x, nI_L (by omega), lI_mul, lI_add]
      have e2 : nI k + (-1) = iI ((k : Int) - 1) := by rw [nI_iI, iIm1, iI_add]; congr 1
      have e3 : ((l.getD k 0 : Nat) : Int) * ((cH (l.drop (k + 1)) : Nat) : Int) + ((cK (l.drop (k + 1)) : Nat) : Int) = ((cH (l.drop k) : Nat) : Int) := by rw [hd, cH_cons]; simp
      have e4 : cH (l.drop (k + 1)) = cK (l.drop k) := by rw [hd, cK_cons]
      rw [e2, e3, e4]
      exact ih fu (by omega) (by omega)
theorem op_convergent {P Q : Nat} {qs ts bs : Nat → Int32} {cn : Int32} (h : SOk P Q qs ts bs cn) (mth mmn i w : Int32) (mte : Nat → Int32) : ∃ r mmn' mte', fX3_convergent ts bs cn i w = some r ∧ fX4_convergent (nI P) (nI Q) mth mmn mte i w = some (r, 0, mmn', mte') := by
  obtain ⟨b, e, hb⟩ := findTerms_ok h.1 mmn mte
  have hl := h.len
  unfold fX3_convergent fX4_convergent
  rw [bd2_e e, h.2.1]
  rcases i_cases i with hi | ⟨k, hk, rfl, hi⟩
  · rw [bd1_e (isTerm_m hi), if_pos rfl, if_pos hi]; exact ⟨_, _, _, rfl, rfl⟩
  · rw [if_neg hi]
    rcases Nat.lt_or_ge k (cf P Q).length with h3 | h3
    · have h4 : ¬ nI (cf P Q).length ≤ nI k := nI_ge h3 (by omega)
      have h5 : ¬ (1 : Int32) = 0 := by decide
      have hi := h.1
      obtain ⟨hT, hB⟩ := h.2.2.2.2 (k + 1) (by omega)
      rw [bd1_e (isTerm_y (by omega) h3), if_neg h5, if_neg h4, nI_1, ck_in (by omega) (by decide), ck_in (by omega) (by decide), nI_clamp (by omega), hT, hB]
      have hle := cf_take_le (j := k + 1) h.1 (by omega)
      have hlen : ((cf P Q).take (k + 1)).length = k + 1 := by rw [List.length_take]; omega
      have hgd : ∀ i, i < k + 1 → ((cf P Q).take (k + 1)).getD i 0 = (cf P Q).getD i 0 := fun i hi => by
        rw [List.getD_eq_getElem?_getD, List.getD_eq_getElem?_getD, List.getElem?_take_of_lt hi]
      have hlk : ((cf P Q).take (k + 1)).drop k = [(cf P Q).getD k 0] := by
        rw [List.drop_eq_getElem_cons (by omega), List.drop_of_length_le (by omega), ← hgd k (by omega), List.getD_eq_getElem?_getD, List.getElem?_eq_getElem (by omega)]; rfl
      have key : fX4_convergent_J32 (nI P) (nI Q) 0 (nI (cf P Q).length) b (nI k) w = some (if w = 0 then nI (cH ((cf P Q).take (k + 1))) else nI (cK ((cf P Q).take (k + 1))), 0, nI (cf P Q).length, b) := by
        have hcl := conv_loop (nI P) (nI Q) 0 (nI (cf P Q).length) w b ((cf P Q).take (k + 1)) (by omega) (fun i hi => by rw [hb i (by omega), hgd i (by omega)]) (fun x hx => by
          have h9 := h.1.2
          rcases cf_le P Q x (List.mem_of_mem_take hx) with h8 | h8 <;> omega) (by have h9 := h.1.2; omega) (by have h9 := h.1.2; omega) k FU (by rw [FU_pos]; omega) (by omega)
        rw [hlk] at hcl
        have c1 : cH [(cf P Q).getD k 0] = (cf P Q).getD k 0 := by simp [cH_cons, cH_nil, cK_nil]
        have c2 : cK [(cf P Q).getD k 0] = 1 := by simp [cK_cons, cH_nil]
        have hx : (cf P Q).getD k 0 ≤ 100000 := by
          rw [List.getD_eq_getElem?_getD, List.getElem?_eq_getElem h3]
          have h9 := h.1.2
          rcases cf_le P Q _ (List.getElem_mem h3) with h8 | h8
          · exact Nat.le_trans h8 h9.1
          · exact Nat.le_trans h8 h9.2.2
        rw [c1, c2] at hcl
        unfold fX4_convergent_J32
        have e3 : nI k - 1 = iI ((k : Int) - 1) := by rw [nI_iI, iI1, iI_sub]
        rw [ck_in (by omega) (by decide), nI_clamp hk, hb k h3, nm_x, nm_x, nI_L (by omega), e3, lI1]
        exact hcl
      unfold fX3_topOrBottom
      by_cases h0 : w = 0
      · rw [if_pos h0] at key
        rw [if_pos h0, if_pos h0, key]; exact ⟨_, _, _, rfl, rfl⟩
      · rw [if_neg h0] at key
        rw [if_neg h0, if_neg h0]
        by_cases h1 : w = 1
        · rw [if_pos h1, if_pos h1, key]; exact ⟨_, _, _, rfl, rfl⟩
        · rw [if_neg h1, if_neg h1]; exact ⟨_, _, _, rfl, rfl⟩
    · have h4 : nI (cf P Q).length ≤ nI k := nI_le h3 hk
      rw [bd1_e (isTerm_n hk h3), if_pos rfl, if_pos h4]
      exact ⟨_, _, _, rfl, rfl⟩

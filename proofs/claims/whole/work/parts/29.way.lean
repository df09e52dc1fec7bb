/-! way, go, up -/
theorem cf_get1 {P Q : Nat} (h : Inv P Q) (h0 : 0 < P) {j : Nat} (hj : f0 (cf P Q) ≤ j) (hj2 : j < (cf P Q).length) : 1 ≤ (cf P Q).getD j 0 := by
  obtain ⟨-, -, hf, hg⟩ := cf_f0 h h0
  rcases Nat.eq_or_lt_of_le hj with he | he
  · rw [← he]; exact hg
  · obtain ⟨t, et, ht⟩ := cf_tail1 P h.2.2.1
    obtain ⟨j', rfl⟩ : ∃ j', j = j' + 1 := ⟨j - 1, by omega⟩
    have hm : (cf P Q).getD (j' + 1) 0 ∈ t := by
      rw [et] at hj2 ⊢
      rw [List.length_cons] at hj2
      rw [List.getD_cons_succ, List.getD_eq_getElem?_getD, List.getElem?_eq_getElem (by omega)]
      exact List.getElem_mem _
    exact ht _ hm
theorem way_loop {P Q : Nat} (h : Inv P Q) (h0 : 0 < P) (mth w : Int32) (mru : Nat → Int32) (a b c d : Int64) (hm : ∀ i, i < nR P Q → mru i = iI (rs (cf P Q) (i + f0 (cf P Q)))) : ∀ (e k fu : Nat), k + e = nR P Q → e < fu → fX4_way_L31 (nI P) (nI Q) fu mth (nI (nR P Q)) mru a b c d w (nI (sT (cf P Q) (k + f0 (cf P Q)))) (nI k) = some (if w = 0 then nI (sT (cf P Q) (nR P Q + f0 (cf P Q))) else nI (nR P Q), mth, nI (nR P Q), mru, a, b, c, d) := by
  have hlen := len_lt (cf_len P Q) h.2.2.2
  obtain ⟨-, -, hf, -⟩ := cf_f0 h h0
  have hnR : nR P Q ≤ (cf P Q).length - f0 (cf P Q) := by unfold nR; split <;> omega
  intro e
  induction e with
  | zero =>
    intro k fu hk hfu
    obtain ⟨fu, rfl⟩ : ∃ g, fu = g + 1 := ⟨fu - 1, by omega⟩
    have : k = nR P Q := by omega
    subst this
    show fX4_way_B31 _ (nI P) (nI Q) _ _ _ _ _ _ _ _ _ _ = _
    unfold fX4_way_B31
    rw [if_pos (nI_le (Nat.le_refl _) (by omega))]
    by_cases hw : w = 0
    · rw [if_pos hw, if_pos hw]
    · rw [if_neg hw, if_neg hw]
  | succ e ih =>
    intro k fu hk hfu
    obtain ⟨fu, rfl⟩ : ∃ g, fu = g + 1 := ⟨fu - 1, by omega⟩
    show fX4_way_B31 (fX4_way_L31 (nI P) (nI Q) fu) (nI P) (nI Q) _ _ _ _ _ _ _ _ _ _ = _
    unfold fX4_way_B31
    have hg := cf_get1 h h0 (j := k + f0 (cf P Q)) (by omega) (by omega)
    have hx : (cf P Q).getD (k + f0 (cf P Q)) 0 ≤ 100000 := by
      rw [List.getD_eq_getElem?_getD, List.getElem?_eq_getElem (by omega)]
      exact cf_b h _ (List.getElem_mem _)
    have hab : ab (cf P Q) (k + f0 (cf P Q)) ≤ 100000 := by unfold ab; split <;> omega
    have hs : sT (cf P Q) (k + 1 + f0 (cf P Q)) = sT (cf P Q) (k + f0 (cf P Q)) + ab (cf P Q) (k + f0 (cf P Q)) := by
      rw [show k + 1 + f0 (cf P Q) = (k + f0 (cf P Q)) + 1 by omega]; rfl
    have key : ∀ y : Int32, y = nI (ab (cf P Q) (k + f0 (cf P Q))) → fX4_way_J65 (fX4_way_L31 (nI P) (nI Q) fu) (nI P) (nI Q) mth (nI (nR P Q)) mru a b c d w (nI k) (nI (sT (cf P Q) (k + f0 (cf P Q)))) y = some (if w = 0 then nI (sT (cf P Q) (nR P Q + f0 (cf P Q))) else nI (nR P Q), mth, nI (nR P Q), mru, a, b, c, d) := fun y hy => by
      unfold fX4_way_J65
      rw [nm_x, nm_x, hy, nI_add, nI_1, ← hs]
      exact ih (k + 1) fu (by omega) (by omega)
    rw [if_neg (nI_ge (by omega) (by omega)), ck_in (by omega) (by decide), ck_in (by omega) (by decide), ck_in (by omega) (by decide), nI_clamp (by omega), hm k (by omega)]
    rcases rs_abs hg with ⟨e1, -⟩ | ⟨e1, -⟩
    · rw [e1, iI0, if_pos ((ic_le ⟨by omega, by omega⟩ ⟨by omega, by omega⟩).mpr (by omega))]
      exact key _ (nI_iI _).symm
    · rw [e1]
      by_cases hz : ab (cf P Q) (k + f0 (cf P Q)) = 0
      · rw [hz, if_pos (by decide)]
        exact key _ (by rw [hz]; decide)
      · rw [iI0, if_neg (fun hh => by have := (ic_le ⟨by omega, by omega⟩ ⟨by omega, by omega⟩).mp hh; omega), iI_neg]
        exact key _ (by rw [nI_iI]; congr 1; omega)
theorem op_way {P Q : Nat} {qs ts bs : Nat → Int32} {cn : Int32} (h : SOk P Q qs ts bs cn) (mth mrs w : Int32) (mru : Nat → Int32) (a b c d : Int64) : ∃ r mrs' mru' a' b' c' d', fX3_way qs ts bs cn w = some r ∧ fX4_way (nI P) (nI Q) mth mrs mru a b c d w = some (r, 0, mrs', mru', a', b', c', d') := by
  have hl := h.1.2
  have hlen := h.len
  unfold fX3_way fX4_way
  rw [bd1_e h.top]
  by_cases h0 : P = 0
  · subst h0
    rw [if_pos (by decide), if_pos (by decide)]; exact ⟨_, _, _, _, _, _, _, rfl, rfl⟩
  · have h0 : 0 < P := by omega
    obtain ⟨mru', e, hm⟩ := walk_ok h.1 h0 mrs mru a b c d
    obtain ⟨-, h2, hf, -⟩ := cf_f0 h.1 h0
    have hs0 : sT (cf P Q) (0 + f0 (cf P Q)) = 0 := by
      rcases Nat.lt_or_ge P Q with h1 | h1
      · have hz : (cf P Q).getD 0 0 = 0 := by rw [cf_pos P h.1.2.2.1, Nat.div_eq_of_lt h1]; rfl
        have h9 : f0 (cf P Q) = 1 := by unfold f0; rw [if_pos hz]
        rw [h9]
        show 0 + ab (cf P Q) 0 = 0
        have := h2 h1
        unfold ab; rw [if_neg (by omega), hz]
      · have hz : ¬ (cf P Q).getD 0 0 = 0 := by
          have : 0 < P / Q := Nat.div_pos h1 h.1.2.2.1
          rw [cf_pos P h.1.2.2.1]
          show ¬ P / Q = 0
          omega
        have h9 : f0 (cf P Q) = 0 := by unfold f0; rw [if_neg hz]
        rw [h9]; rfl
    have hall : nI (sT (cf P Q) (nR P Q + f0 (cf P Q))) = iI ((sA (cf P Q) (cf P Q).length : Int) - 1) := by
      rw [nI_iI]
      congr 1
      by_cases he : P = Q
      · obtain ⟨rfl, rfl⟩ := inv_eq h.1 he
        decide
      · have hn : nR P Q + f0 (cf P Q) = (cf P Q).length := by unfold nR; rw [if_neg he]; omega
        rw [hn]
        have := cf_last2 h.1 h0 he
        exact sT_all (by omega) (by omega)
    have hJ : fX4_way_J23 (nI P) (nI Q) 0 mrs mru a b c d w = some (if w = 0 then nI (sT (cf P Q) (nR P Q + f0 (cf P Q))) else nI (nR P Q), 0, nI (nR P Q), mru', lI (feT (cf P Q)), lI (feB (cf P Q)), lI (geT (cf P Q)), lI (geB (cf P Q))) := by
      unfold fX4_way_J23
      rw [bd6_e e]
      have hnR : nR P Q ≤ (cf P Q).length - f0 (cf P Q) := by unfold nR; split <;> omega
      have := way_loop h.1 h0 0 w mru' (lI (feT (cf P Q))) (lI (feB (cf P Q))) (lI (geT (cf P Q))) (lI (geB (cf P Q))) hm (nR P Q) 0 FU (by omega) (by rw [FU_pos]; omega)
      rw [hs0] at this
      exact this
    rw [if_neg (nI_ne0 h0 (by omega)), if_neg (nI_ne0 h0 (by omega)), bd1_e h.2.countSteps, bd1_e h.countRuns, if_neg (by omega)]
    unfold fX3_topOrBottom
    by_cases hw : w = 0
    · rw [if_pos hw] at hJ
      rw [if_pos hw, if_pos hw, hJ, hall]; exact ⟨_, _, _, _, _, _, _, rfl, rfl⟩
    · rw [if_neg hw] at hJ
      rw [if_neg hw, if_neg hw]
      by_cases hw1 : w = 1
      · rw [if_pos hw1, if_pos hw1, hJ]; exact ⟨_, _, _, _, _, _, _, rfl, rfl⟩
      · rw [if_neg hw1, if_neg hw1]; exact ⟨_, _, _, _, _, _, _, rfl, rfl⟩
/-- the neighbours: they add up to it, and stand next to it -/
theorem fe_ok {l : List Nat} (h : cP l ≤ cH l) (h' : cQ l ≤ cK l) : feT l + geT l = cH l ∧ feB l + geB l = cK l ∧ (cH l : Int) * feB l - feT l * cK l = 1 ∧ (geT l : Int) * cK l - cH l * geB l = 1 := by
  have hd := c_det l
  unfold feT feB geT geB
  rcases Nat.mod_two_eq_zero_or_one l.length with hp | hp
  · have hd := hd.1 hp
    have hd' : (cH l : Int) * cQ l = cP l * cK l + 1 := by exact_mod_cast hd
    simp only [hp, if_true]
    refine ⟨by omega, by omega, by omega, ?_⟩
    rw [Int.natCast_sub h, Int.natCast_sub h']; grind
  · have hd := hd.2 hp
    have hd' : (cP l : Int) * cK l = cH l * cQ l + 1 := by exact_mod_cast hd
    have hn : ¬ l.length % 2 = 0 := by omega
    simp only [hn, if_false]
    refine ⟨by omega, by omega, ?_, by omega⟩
    rw [Int.natCast_sub h, Int.natCast_sub h']; grind
theorem cPQ_le {P Q : Nat} (h : Inv P Q) (h0 : 0 < P) : cP (cf P Q) ≤ cH (cf P Q) ∧ cQ (cf P Q) ≤ cK (cf P Q) := by
  obtain ⟨-, -, hf, -⟩ := cf_f0 h h0
  have hg := cf_get1 h h0 (j := (cf P Q).length - 1) (by omega) (by omega)
  have htk := take_snoc (l := cf P Q) (j := (cf P Q).length - 1) (by omega)
  rw [show (cf P Q).length - 1 + 1 = (cf P Q).length by omega, List.take_length] at htk
  have e1 := cH_snoc ((cf P Q).getD ((cf P Q).length - 1) 0) ((cf P Q).take ((cf P Q).length - 1))
  have e2 := cK_snoc ((cf P Q).getD ((cf P Q).length - 1) 0) ((cf P Q).take ((cf P Q).length - 1))
  have e3 := cP_snoc ((cf P Q).getD ((cf P Q).length - 1) 0) ((cf P Q).take ((cf P Q).length - 1))
  have e4 := cQ_snoc ((cf P Q).getD ((cf P Q).length - 1) 0) ((cf P Q).take ((cf P Q).length - 1))
  rw [← htk] at e1 e2 e3 e4
  have a1 := Nat.le_mul_of_pos_left (cH ((cf P Q).take ((cf P Q).length - 1))) hg
  have a2 := Nat.le_mul_of_pos_left (cK ((cf P Q).take ((cf P Q).length - 1))) hg
  omega
theorem gcd1_of {a b : Nat} {x y : Int} (h : (a : Int) * x - b * y = 1) : Nat.gcd a b = 1 := by
  have h1 : (Nat.gcd a b : Int) ∣ a := Int.natCast_dvd_natCast.mpr (Nat.gcd_dvd_left a b)
  have h2 : (Nat.gcd a b : Int) ∣ b := Int.natCast_dvd_natCast.mpr (Nat.gcd_dvd_right a b)
  have h3 : (Nat.gcd a b : Int) ∣ 1 := by
    rw [← h]
    exact Int.dvd_sub (Int.dvd_mul_of_dvd_left h1) (Int.dvd_mul_of_dvd_left h2)
  have := Int.natCast_dvd_natCast.mp (by simpa using h3 : (Nat.gcd a b : Int) ∣ ((1 : Nat) : Int))
  exact Nat.dvd_one.mp this

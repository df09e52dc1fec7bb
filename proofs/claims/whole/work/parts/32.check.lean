/-! check tells 1 -/
theorem terms_loop {P Q : Nat} {qs ts bs : Nat → Int32} {cn : Int32} (h : SOk P Q qs ts bs cn) : ∀ (k fu : Nat), k < fu → k ≤ (cf P Q).length → fX0_termsMakeIt_L12 qs ts bs cn fu (lI (cH ((cf P Q).drop k))) (lI (cK ((cf P Q).drop k))) (iI ((k : Int) - 1)) = some 1 := by
  have hl := h.1.2
  have hlen := h.len
  intro k
  induction k with
  | zero =>
    intro fu hf hk
    obtain ⟨fu, rfl⟩ : ∃ g, fu = g + 1 := ⟨fu - 1, by omega⟩
    show fX0_termsMakeIt_B12 _ qs ts bs cn _ _ (iI (((0 : Nat) : Int) - 1)) = _
    unfold fX0_termsMakeIt_B12
    have h0 : iI (((0 : Nat) : Int) - 1) < 0 := by decide
    rw [if_pos h0, List.drop_zero, bd1_e h.top, cf_cH h.1.1, cf_cK h.1.1, nI_L (by omega), if_pos ((lc_eq ⟨by omega, by omega⟩ ⟨by omega, by omega⟩).mpr rfl), bd1_e h.bottom, nI_L (by omega), if_pos ((lc_eq ⟨by omega, by omega⟩ ⟨by omega, by omega⟩).mpr rfl)]
  | succ k ih =>
    intro fu hf hk
    obtain ⟨fu, rfl⟩ : ∃ g, fu = g + 1 := ⟨fu - 1, by omega⟩
    have hx : (cf P Q).getD k 0 ≤ 100000 := by
      rw [List.getD_eq_getElem?_getD, List.getElem?_eq_getElem (by omega)]
      exact cf_b h.1 _ (List.getElem_mem _)
    have hd := drop_cons' (l := cf P Q) (j := k) (by omega)
    show fX0_termsMakeIt_B12 (fX0_termsMakeIt_L12 qs ts bs cn fu) qs ts bs cn _ _ (iI (((k + 1 : Nat) : Int) - 1)) = _
    unfold fX0_termsMakeIt_B12
    have e0 : iI (((k + 1 : Nat) : Int) - 1) = nI k := by rw [nI_iI]; congr 1; omega
    rw [e0, if_neg (nI_pos (by omega)), ck_in (by omega) (by decide), nI_clamp (by omega), h.2.2.2.1 k (by omega), nm_x, nm_x, nI_L (by omega), lI_mul, lI_add]
    have e2 : nI k + (-1) = iI ((k : Int) - 1) := by rw [nI_iI, iIm1, iI_add]; congr 1
    have e3 : (((cf P Q).getD k 0 : Nat) : Int) * ((cH ((cf P Q).drop (k + 1)) : Nat) : Int) + ((cK ((cf P Q).drop (k + 1)) : Nat) : Int) = ((cH ((cf P Q).drop k) : Nat) : Int) := by rw [hd, cH_cons]; simp
    have e4 : cH ((cf P Q).drop (k + 1)) = cK ((cf P Q).drop k) := by rw [hd, cK_cons]
    rw [e2, e3, e4]
    exact ih fu (by omega) (by omega)
theorem SOk.terms1 {P Q : Nat} {qs ts bs : Nat → Int32} {cn : Int32} (h : SOk P Q qs ts bs cn) : fX0_termsMakeIt qs ts bs cn = some 1 := by
  have hlen := h.len
  have h1 := terms_loop h (cf P Q).length FU (by rw [FU_pos]; omega) (Nat.le_refl _)
  rw [List.drop_length, cH_nil, cK_nil] at h1
  unfold fX0_termsMakeIt
  rw [nm_x]
  have e : cn - 1 = iI (((cf P Q).length : Int) - 1) := by rw [h.2.1, nI_iI, iI1, iI_sub]
  rw [e]
  exact h1
theorem close_loop {P Q : Nat} {qs ts bs : Nat → Int32} {cn : Int32} (h : SOk P Q qs ts bs cn) : ∀ (d i fu : Nat), i + d = (cf P Q).length + 1 → 2 ≤ i → d < fu → fX0_convergentsAreClose_L2 ts bs cn fu (nI i) = some 1 := by
  have hl := h.1.2
  have hlen := h.len
  intro d
  induction d with
  | zero =>
    intro i fu hi hi2 hf
    obtain ⟨fu, rfl⟩ : ∃ g, fu = g + 1 := ⟨fu - 1, by omega⟩
    show fX0_convergentsAreClose_B2 _ ts bs cn _ = _
    unfold fX0_convergentsAreClose_B2
    rw [h.2.1, if_pos (nI_lt (by omega) (by omega))]
  | succ d ih =>
    intro i fu hi hi2 hf
    obtain ⟨fu, rfl⟩ : ∃ g, fu = g + 1 := ⟨fu - 1, by omega⟩
    show fX0_convergentsAreClose_B2 (fX0_convergentsAreClose_L2 ts bs cn fu) ts bs cn _ = _
    obtain ⟨j, rfl⟩ : ∃ j, i = j + 1 := ⟨i - 1, by omega⟩
    have hJ : fX0_convergentsAreClose_J62 (fX0_convergentsAreClose_L2 ts bs cn fu) ts bs cn (nI (j + 1)) = some 1 := by
      unfold fX0_convergentsAreClose_J62
      rw [nm_x, nI_1]
      exact ih (j + 1 + 1) fu (by omega) (by omega) (by omega)
    unfold fX0_convergentsAreClose_B2
    have n1 : ¬ cn < nI (j + 1) := by rw [h.2.1]; exact nI_nlt (by omega) (by omega)
    obtain ⟨t1, b1⟩ := h.2.2.2.2 (j + 1) (by omega)
    obtain ⟨t0, b0⟩ := h.2.2.2.2 j (by omega)
    have l1 := cf_take_le (j := j + 1) h.1 (by omega)
    have l0 := cf_take_le (j := j) h.1 (by omega)
    rw [if_neg n1, nI_pred, ck_in (by omega) (by decide), ck_in (by omega) (by decide), ck_in (by omega) (by decide), ck_in (by omega) (by decide), nm_x, nI_clamp (by omega), nI_clamp (by omega), t1, b1, t0, b0, nI_L (by omega), nI_L (by omega), nI_L (by omega), nI_L (by omega), lI_mul, lI_mul, lI_sub, hJ]
    have htk := take_snoc (l := cf P Q) (j := j) (by omega)
    have e3 : cP ((cf P Q).take (j + 1)) = cH ((cf P Q).take j) := by rw [htk, cP_snoc]
    have e4 : cQ ((cf P Q).take (j + 1)) = cK ((cf P Q).take j) := by rw [htk, cQ_snoc]
    have hd := c_det ((cf P Q).take (j + 1))
    rw [e3, e4] at hd
    have hb : ∀ z : Int, z = 1 ∨ z = -1 → (if lg_cmp (lI z) 1 = 0 then some (1 : Int32) else if lg_cmp (lI z) (-1) = 0 then some 1 else some 0) = some 1 := fun z hz => by
      rcases hz with rfl | rfl <;> decide
    refine hb _ ?_
    rcases Nat.mod_two_eq_zero_or_one ((cf P Q).take (j + 1)).length with hp | hp
    · have := hd.1 hp
      left
      have h2 : ((cH ((cf P Q).take (j + 1)) * cK ((cf P Q).take j) : Nat) : Int) = ((cH ((cf P Q).take j) * cK ((cf P Q).take (j + 1)) + 1 : Nat) : Int) := by rw [this]
      push_cast at h2
      omega
    · have := hd.2 hp
      right
      have h2 : ((cH ((cf P Q).take j) * cK ((cf P Q).take (j + 1)) : Nat) : Int) = ((cH ((cf P Q).take (j + 1)) * cK ((cf P Q).take j) + 1 : Nat) : Int) := by rw [this]
      push_cast at h2
      omega
theorem SOk.close1 {P Q : Nat} {qs ts bs : Nat → Int32} {cn : Int32} (h : SOk P Q qs ts bs cn) : fX0_convergentsAreClose ts bs cn = some 1 := by
  have hlen := h.len
  have hp : 0 < (cf P Q).length := by rw [cf_pos P h.1.2.2.1]; simp
  exact close_loop h ((cf P Q).length - 1) 2 FU (by omega) (by omega) (by rw [FU_pos]; omega)
theorem lead_end {P Q : Nat} {qs ts bs : Nat → Int32} {cn : Int32} (h : SOk P Q qs ts bs cn) (h0 : 0 < P) (fu r : Nat) (hr : r < 2 ^ 31) : fX0_wayLeadsToIt_L28 qs ts bs cn (fu + 1) (lI (feT (cf P Q))) (lI (feB (cf P Q))) (lI (geT (cf P Q))) (lI (geB (cf P Q))) (nI r) (nI r) = some 1 := by
  have hl := h.1.2
  obtain ⟨g1, g2⟩ := cPQ_le h.1 h0
  obtain ⟨a1, a2, -, -⟩ := fe_ok g1 g2
  rw [cf_cH h.1.1] at a1
  rw [cf_cK h.1.1] at a2
  show fX0_wayLeadsToIt_B28 _ qs ts bs cn _ _ _ _ _ _ = _
  unfold fX0_wayLeadsToIt_B28
  have e1 : (feT (cf P Q) : Int) + geT (cf P Q) = P := by omega
  have e2 : (feB (cf P Q) : Int) + geB (cf P Q) = Q := by omega
  rw [if_pos (nI_le (Nat.le_refl _) hr), bd1_e h.top, lI_add, lI_add, e1, e2, nI_L (by omega), if_pos ((lc_eq ⟨by omega, by omega⟩ ⟨by omega, by omega⟩).mpr rfl), bd1_e h.bottom, nI_L (by omega), if_pos ((lc_eq ⟨by omega, by omega⟩ ⟨by omega, by omega⟩).mpr rfl)]
theorem lead_loop {P Q : Nat} {qs ts bs : Nat → Int32} {cn : Int32} (h : SOk P Q qs ts bs cn) (h0 : 0 < P) (hne : P ≠ Q) : ∀ (d k fu : Nat), k + d + 1 = nR P Q → d + 2 < fu → fX0_wayLeadsToIt_L28 qs ts bs cn fu (lI (loT (cf P Q) (k + f0 (cf P Q)))) (lI (loB (cf P Q) (k + f0 (cf P Q)))) (lI (hiT (cf P Q) (k + f0 (cf P Q)))) (lI (hiB (cf P Q) (k + f0 (cf P Q)))) (nI (nR P Q)) (nI k) = some 1 := by
  have hl := h.1.2
  have hlen := h.len
  obtain ⟨-, -, hf, -⟩ := cf_f0 h.1 h0
  have hnR : nR P Q = (cf P Q).length - f0 (cf P Q) := by unfold nR; rw [if_neg hne]
  have hl2 := cf_last2 h.1 h0 hne
  intro d
  induction d with
  | zero =>
    intro k fu hk hfu
    obtain ⟨fu, rfl⟩ : ∃ g, fu = g + 2 := ⟨fu - 2, by omega⟩
    show fX0_wayLeadsToIt_B28 (fX0_wayLeadsToIt_L28 qs ts bs cn (fu + 1)) qs ts bs cn _ _ _ _ _ _ = _
    unfold fX0_wayLeadsToIt_B28
    have hg := cf_get1 h.1 h0 (j := k + f0 (cf P Q)) (by omega) (by omega)
    have hx : (cf P Q).getD (k + f0 (cf P Q)) 0 ≤ 100000 := by
      rw [List.getD_eq_getElem?_getD, List.getElem?_eq_getElem (by omega)]
      exact cf_b h.1 _ (List.getElem_mem _)
    have hab : ab (cf P Q) (k + f0 (cf P Q)) = (cf P Q).getD (k + f0 (cf P Q)) 0 - 1 := by unfold ab; rw [if_pos (by omega)]
    have ha2 : 2 ≤ (cf P Q).getD (k + f0 (cf P Q)) 0 := by rw [show k + f0 (cf P Q) = (cf P Q).length - 1 by omega]; exact hl2
    have hsl := step_last (l := cf P Q) (j := k + f0 (cf P Q)) (by omega) hg
    rw [← hab] at hsl
    have kn : k + 1 = nR P Q := by omega
    rw [if_neg (nI_ge (by omega) (by omega)), bd1_e (h.2.steps (by omega) (cf_b h.1) (by omega))]
    rcases rs_abs hg with ⟨e1, hp⟩ | ⟨e1, hp⟩
    · obtain ⟨s1, s2, s3, s4⟩ := hsl.1 hp
      rw [e1, iI0, if_neg (fun hh => by have := (ic_le ⟨by omega, by omega⟩ ⟨by omega, by omega⟩).mp hh; omega), iI_l ⟨by omega, by omega⟩, lI_mul, lI_add, lI_mul, lI_add, nm_x, nm_x]
      unfold fX0_wayLeadsToIt_J89
      rw [nm_x, nI_1, kn, ← s3, ← s4]
      have t1 : (loT (cf P Q) (k + f0 (cf P Q)) : Int) + (ab (cf P Q) (k + f0 (cf P Q)) : Int) * (geT (cf P Q) : Int) = (feT (cf P Q) : Int) := by rw [s1, s3]; push_cast; rfl
      have t2 : (loB (cf P Q) (k + f0 (cf P Q)) : Int) + (ab (cf P Q) (k + f0 (cf P Q)) : Int) * (geB (cf P Q) : Int) = (feB (cf P Q) : Int) := by rw [s2, s4]; push_cast; rfl
      rw [t1, t2]
      exact lead_end h h0 fu _ (by omega)
    · obtain ⟨s1, s2, s3, s4⟩ := hsl.2 hp
      rw [e1, iI0, if_pos ((ic_le ⟨by omega, by omega⟩ ⟨by omega, by omega⟩).mpr (by omega)), iI_l ⟨by omega, by omega⟩, lI_mul, lI_sub, lI_mul, lI_sub, nm_x, nm_x]
      unfold fX0_wayLeadsToIt_J89
      rw [nm_x, nI_1, kn, ← s3, ← s4]
      have t1 : (hiT (cf P Q) (k + f0 (cf P Q)) : Int) - -(ab (cf P Q) (k + f0 (cf P Q)) : Int) * (feT (cf P Q) : Int) = (geT (cf P Q) : Int) := by rw [s1, s3]; push_cast; grind
      have t2 : (hiB (cf P Q) (k + f0 (cf P Q)) : Int) - -(ab (cf P Q) (k + f0 (cf P Q)) : Int) * (feB (cf P Q) : Int) = (geB (cf P Q) : Int) := by rw [s2, s4]; push_cast; grind
      rw [t1, t2]
      exact lead_end h h0 fu _ (by omega)
  | succ d ih =>
    intro k fu hk hfu
    obtain ⟨fu, rfl⟩ : ∃ g, fu = g + 1 := ⟨fu - 1, by omega⟩
    show fX0_wayLeadsToIt_B28 (fX0_wayLeadsToIt_L28 qs ts bs cn fu) qs ts bs cn _ _ _ _ _ _ = _
    unfold fX0_wayLeadsToIt_B28
    have hg := cf_get1 h.1 h0 (j := k + f0 (cf P Q)) (by omega) (by omega)
    have hx : (cf P Q).getD (k + f0 (cf P Q)) 0 ≤ 100000 := by
      rw [List.getD_eq_getElem?_getD, List.getElem?_eq_getElem (by omega)]
      exact cf_b h.1 _ (List.getElem_mem _)
    have hab : ab (cf P Q) (k + f0 (cf P Q)) = (cf P Q).getD (k + f0 (cf P Q)) 0 := by unfold ab; rw [if_neg (by omega)]
    have hsl := step_mid (l := cf P Q) (j := k + f0 (cf P Q)) (by omega)
    rw [← hab] at hsl
    have kn : k + f0 (cf P Q) + 1 = k + 1 + f0 (cf P Q) := by omega
    rw [kn] at hsl
    have hi := ih (k + 1) fu (by omega) (by omega)
    rw [if_neg (nI_ge (by omega) (by omega)), bd1_e (h.2.steps (by omega) (cf_b h.1) (by omega))]
    rcases rs_abs hg with ⟨e1, hp⟩ | ⟨e1, hp⟩
    · obtain ⟨s1, s2, s3, s4⟩ := hsl.1 hp
      rw [e1, iI0, if_neg (fun hh => by have := (ic_le ⟨by omega, by omega⟩ ⟨by omega, by omega⟩).mp hh; omega), iI_l ⟨by omega, by omega⟩, lI_mul, lI_add, lI_mul, lI_add, nm_x, nm_x]
      unfold fX0_wayLeadsToIt_J89
      rw [nm_x, nI_1, ← s3, ← s4]
      have t1 : (loT (cf P Q) (k + f0 (cf P Q)) : Int) + (ab (cf P Q) (k + f0 (cf P Q)) : Int) * (hiT (cf P Q) (k + 1 + f0 (cf P Q)) : Int) = (loT (cf P Q) (k + 1 + f0 (cf P Q)) : Int) := by rw [s1, s3]; push_cast; rfl
      have t2 : (loB (cf P Q) (k + f0 (cf P Q)) : Int) + (ab (cf P Q) (k + f0 (cf P Q)) : Int) * (hiB (cf P Q) (k + 1 + f0 (cf P Q)) : Int) = (loB (cf P Q) (k + 1 + f0 (cf P Q)) : Int) := by rw [s2, s4]; push_cast; rfl
      rw [t1, t2]
      exact hi
    · obtain ⟨s1, s2, s3, s4⟩ := hsl.2 hp
      rw [e1, iI0, if_pos ((ic_le ⟨by omega, by omega⟩ ⟨by omega, by omega⟩).mpr (by omega)), iI_l ⟨by omega, by omega⟩, lI_mul, lI_sub, lI_mul, lI_sub, nm_x, nm_x]
      unfold fX0_wayLeadsToIt_J89
      rw [nm_x, nI_1, ← s3, ← s4]
      have t1 : (hiT (cf P Q) (k + f0 (cf P Q)) : Int) - -(ab (cf P Q) (k + f0 (cf P Q)) : Int) * (loT (cf P Q) (k + 1 + f0 (cf P Q)) : Int) = (hiT (cf P Q) (k + 1 + f0 (cf P Q)) : Int) := by rw [s1, s3]; push_cast; grind
      have t2 : (hiB (cf P Q) (k + f0 (cf P Q)) : Int) - -(ab (cf P Q) (k + f0 (cf P Q)) : Int) * (loB (cf P Q) (k + 1 + f0 (cf P Q)) : Int) = (hiB (cf P Q) (k + 1 + f0 (cf P Q)) : Int) := by rw [s2, s4]; push_cast; grind
      rw [t1, t2]
      exact hi
theorem start_st {l : List Nat} (hl : f0 l < l.length) : loT l (f0 l) = 0 ∧ loB l (f0 l) = 1 ∧ hiT l (f0 l) = 1 ∧ hiB l (f0 l) = 0 := by
  by_cases h9 : l.getD 0 0 = 0
  · have h8 : f0 l = 1 := by unfold f0; rw [if_pos h9]
    rw [h8] at hl ⊢
    have h7 : l.take 1 = [0] := by
      have := take_snoc (l := l) (j := 0) (by omega)
      rw [h9] at this
      simpa using this
    unfold loT loB hiT hiB
    rw [h7]
    decide
  · have h8 : f0 l = 0 := by unfold f0; rw [if_neg h9]
    rw [h8]
    unfold loT loB hiT hiB
    rw [List.take_zero]
    decide
theorem SOk.lead1 {P Q : Nat} {qs ts bs : Nat → Int32} {cn : Int32} (h : SOk P Q qs ts bs cn) : fX0_wayLeadsToIt qs ts bs cn = some 1 := by
  have hl := h.1.2
  have hlen := h.len
  unfold fX0_wayLeadsToIt
  rw [bd1_e h.top]
  by_cases h0 : P = 0
  · subst h0; rw [if_pos (by decide)]
  · have h0 : 0 < P := by omega
    rw [if_neg (nI_ne0 h0 (by omega)), bd1_e h.countRuns, if_neg (by omega)]
    by_cases he : P = Q
    · obtain ⟨rfl, rfl⟩ := inv_eq h.1 he
      exact lead_end h h0 999999999 0 (by omega)
    · obtain ⟨-, -, hf, -⟩ := cf_f0 h.1 h0
      have hnR : nR P Q = (cf P Q).length - f0 (cf P Q) := by unfold nR; rw [if_neg he]
      have hw := lead_loop h h0 he (nR P Q - 1) 0 FU (by omega) (by rw [FU_pos]; omega)
      obtain ⟨e1, e2, e3, e4⟩ := start_st hf
      rw [Nat.zero_add, e1, e2, e3, e4] at hw
      exact hw
theorem op_check {P Q : Nat} {qs ts bs : Nat → Int32} {cn : Int32} (h : SOk P Q qs ts bs cn) (mth : Int32) : ∃ r, fX3_check qs ts bs cn = some r ∧ fX4_check mth = some (r, 0) := by
  unfold fX3_check fX4_check
  have n1 : ¬ (1 : Int32) = 0 := by decide
  rw [bd1_e h.terms1, if_neg n1, bd1_e h.close1, if_neg n1, bd1_e h.lead1, if_neg n1]
  exact ⟨_, rfl, rfl⟩

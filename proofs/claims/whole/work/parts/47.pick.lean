/-! pick -/
theorem far_le {n i a b c d : Nat} (h : Far n i a b c d) (hn : n ≤ 200) : c ≤ 201 := by
  obtain ⟨h1, h2, h3, h4, h5, h6, h7, h8⟩ := h
  have e1 : c * b ≤ (d + 1) * b := by
    rw [h1, Nat.add_mul, Nat.one_mul, Nat.mul_comm d b]
    have := Nat.mul_le_mul_right d h7
    omega
  have := Nat.le_of_mul_le_mul_right e1 h2
  omega
/-- the reference's row, walked -/
theorem mpick_loop {n k : Nat} (hn : n ≤ 200) (hk : k < cAll n) (hkb : k < 2 ^ 31) (mtp mbt : Int32) : ∀ (e i a b c d fu : Nat), i + e = k → e < fu → Far n i a b c d → ∃ a' b' c' d', Far n k a' b' c' d' ∧ fX4_pick_L32 fu 0 mtp mbt (nI n) (nI k) (nI a) (nI b) (nI c) (nI d) (nI i) = some (1, 0, nI a', nI b') := by
  intro e
  induction e with
  | zero =>
    intro i a b c d fu hi hf h
    obtain ⟨fu, rfl⟩ : ∃ g, fu = g + 1 := ⟨fu - 1, by omega⟩
    have : i = k := by omega
    subst this
    refine ⟨a, b, c, d, h, ?_⟩
    show fX4_pick_B32 _ 0 mtp mbt _ _ _ _ _ _ _ = _
    unfold fX4_pick_B32
    rw [if_pos (nI_le (Nat.le_refl _) hkb)]
  | succ e ih =>
    intro i a b c d fu hi hf h
    obtain ⟨fu, rfl⟩ : ∃ g, fu = g + 1 := ⟨fu - 1, by omega⟩
    obtain ⟨s1, s2, s3⟩ := h.step (by omega)
    have hd0 := h.2.2.2.1
    have hdn := h.2.2.2.2.1
    have hbn := h.2.2.1
    obtain ⟨a', b', c', d', hF, e1⟩ := ih (i + 1) c d _ _ fu (by omega) (by omega) s1
    refine ⟨a', b', c', d', hF, ?_⟩
    show fX4_pick_B32 (fX4_pick_L32 fu) 0 mtp mbt _ _ _ _ _ _ _ = _
    unfold fX4_pick_B32
    rw [if_neg (nI_ge (by omega) hkb), ckZ_n hd0 (by omega), nm_x, nm_x, nm_x, nm_x, nI_add, pk_div (by omega) hd0 (by omega), pk_mul, pk_mul, pk_sub s2, pk_sub s3, nI_1]
    exact e1
/-- the class's search ends at some column not above k -/
theorem column_loop {mo : Nat → Int32} (hR : ROk mo) {n k : Nat} (hn : n ≤ 200) (hn1 : 1 ≤ n) (hk : k < 2 ^ 31) : ∀ (d i fu col bey : Nat), i + d = 64 → d < fu → col < bey → bey ≤ n + 1 → cBel n col n ≤ k → ∃ col', fX2_columnOf_L10 mo fu (nI n) (nI k) (nI col) (nI bey) (nI i) = some (nI col') ∧ col' ≤ n ∧ cBel n col' n ≤ k := by
  have n64 : (64 : Int32) = nI 64 := by decide
  have hall : ∀ c, c ≤ n → cBel n c n < 2 ^ 31 := fun c hc => by
    have hsm : ∀ (f : Nat → Nat) (m B : Nat), (∀ i, i < m → f i ≤ B) → sm f m ≤ m * B := fun f m B hf => by
      induction m with
      | zero => exact Nat.zero_le _
      | succ m ih =>
        show sm f m + f m ≤ (m + 1) * B
        have := ih (fun i hi => hf i (by omega))
        have := hf m (by omega)
        rw [Nat.add_mul, Nat.one_mul]
        omega
    have hc0 : ∀ p q, cI0 n p q ≤ n * 200 := fun p q => by
      unfold cI0
      refine hsm _ n 200 (fun b hb => ?_)
      have := hsm (fun a => if (a + 1) * q < p * (b + 1) ∧ Nat.gcd (a + 1) (b + 1) = 1 then 1 else 0) (b + 1) 1 (fun a _ => by
        show (if (a + 1) * q < p * (b + 1) ∧ Nat.gcd (a + 1) (b + 1) = 1 then 1 else 0) ≤ 1
        split <;> omega)
      omega
    have h1 := hc0 c n
    have h2 := hc0 1 1
    unfold cBel cAll
    split
    · omega
    · first | omega | (split <;> omega)
  intro d
  induction d with
  | zero =>
    intro i fu col bey hi hf hcb hbn hck
    obtain ⟨fu, rfl⟩ : ∃ g, fu = g + 1 := ⟨fu - 1, by omega⟩
    refine ⟨col, ?_, by omega, hck⟩
    show fX2_columnOf_B10 _ mo _ _ _ _ _ = _
    unfold fX2_columnOf_B10
    rw [n64, if_pos (nI_le (by omega) (by omega))]
  | succ d ih =>
    intro i fu col bey hi hf hcb hbn hck
    obtain ⟨fu, rfl⟩ : ∃ g, fu = g + 1 := ⟨fu - 1, by omega⟩
    show ∃ col', fX2_columnOf_B10 (fX2_columnOf_L10 mo fu) mo _ _ _ _ _ = some (nI col') ∧ _
    unfold fX2_columnOf_B10 fX2_columnOf_J55
    rw [n64, if_neg (nI_ge (by omega) (by omega)), pk_sub (by omega)]
    by_cases h1 : bey - col ≤ 1
    · rw [nI1, if_pos (nI_le h1 (by omega))]
      exact ⟨col, rfl, by omega, hck⟩
    · have e2 : (nI col + nI bey) / 2 = nI ((col + bey) / 2) := by rw [nI_add, nI2, pk_div (by omega) (by omega) (by omega)]
      have hm : (col + bey) / 2 ≤ n := by omega
      rw [nI1, if_neg (nI_ge (by omega) (by omega)), ckZ2, nm_x, e2, bd1_e (countBelow_ok hR hn (by omega) (by omega)), nm_x, nm_x, ← nI1, nI_1]
      rcases Nat.lt_or_ge k (cBel n ((col + bey) / 2) n) with h2 | h2
      · rw [if_pos (nI_lt h2 (hall _ hm))]
        exact ih (i + 1) fu col ((col + bey) / 2) (by omega) (by omega) (by omega) (by omega) hck
      · rw [if_neg (nI_nlt h2 hk)]
        exact ih (i + 1) fu ((col + bey) / 2) bey (by omega) (by omega) (by omega) hbn h2
theorem columnOf_ok {mo : Nat → Int32} (hR : ROk mo) {n k : Nat} (hn : n ≤ 200) (hn1 : 1 ≤ n) (hk : k < 2 ^ 31) : ∃ col, fX2_columnOf mo (nI n) (nI k) = some (nI col) ∧ col ≤ n ∧ cBel n col n ≤ k := by
  unfold fX2_columnOf
  rw [nm_x, nI_1]
  exact column_loop hR hn hn1 hk 64 0 FU 0 (n + 1) (by omega) (by rw [FU_pos]; omega) (by omega) (by omega) (by unfold cBel; rw [if_pos rfl]; omega)
theorem cBel_scale {n g A B : Nat} (hg : 0 < g) : cBel n (g * A) (g * B) = cBel n A B := by
  unfold cBel
  have h1 : g * A = 0 ↔ A = 0 := by
    constructor
    · intro h
      rcases Nat.mul_eq_zero.mp h with h | h
      · omega
      · exact h
    · intro h; rw [h, Nat.mul_zero]
  have h2 : g * A ≤ g * B ↔ A ≤ B := Nat.mul_le_mul_left_iff hg
  have h3 : cI0 n (g * A) (g * B) = cI0 n A B := by
    unfold cI0
    refine sm_congr n (fun y _ => sm_congr (y + 1) (fun x _ => ?_))
    have e1 : (x + 1) * (g * B) = g * ((x + 1) * B) := by grind
    have e2 : g * A * (y + 1) = g * (A * (y + 1)) := by grind
    have : (x + 1) * (g * B) < g * A * (y + 1) ↔ (x + 1) * B < A * (y + 1) := by rw [e1, e2, Nat.mul_lt_mul_left hg]
    simp only [this]
  simp only [h1, h2, h3]
/-- the next bottom: some number in the last B up to n -/
theorem behind_ex {A B n : Nat} (hB : 0 < B) (hBn : B ≤ n) (hg : Nat.gcd A B = 1) : ∃ d, n < B + d ∧ d ≤ n ∧ (A * d + 1) % B = 0 := by
  have hcf := cf_cH hg
  have hck := cf_cK hg
  have hdet := c_det (cf A B)
  rw [hcf, hck] at hdet
  obtain ⟨x0, hx0⟩ : ∃ x0, B ∣ A * x0 + 1 := by
    rcases Nat.mod_two_eq_zero_or_one (cf A B).length with hp | hp
    · have h1 := hdet.1 hp
      refine ⟨(B - 1) * cQ (cf A B), ?_⟩
      have e1 : A * ((B - 1) * cQ (cf A B)) = (B - 1) * (A * cQ (cf A B)) := by grind
      rw [e1, h1]
      refine ⟨(B - 1) * cP (cf A B) + 1, ?_⟩
      obtain ⟨t, rfl⟩ : ∃ t, B = t + 1 := ⟨B - 1, by omega⟩
      rw [Nat.add_sub_cancel]
      grind
    · have h1 := hdet.2 hp
      exact ⟨cQ (cf A B), cP (cf A B), by rw [← h1, Nat.mul_comm]⟩
  have hmod := Nat.mod_lt (n + B * x0 - x0) hB
  have hxx : x0 ≤ B * x0 := Nat.le_mul_of_pos_left _ hB
  have hdm := Nat.div_add_mod (n + B * x0 - x0) B
  generalize (n + B * x0 - x0) % B = r at *
  generalize (n + B * x0 - x0) / B = w at *
  refine ⟨n - r, by omega, by omega, ?_⟩
  apply Nat.mod_eq_zero_of_dvd
  have e : A * (n - r) + 1 + A * (B * x0) = (A * x0 + 1) + B * (A * w) := by
    have h5 : n - r + B * x0 = x0 + B * w := by omega
    have h6 : A * (n - r) + A * (B * x0) = A * x0 + A * (B * w) := by rw [← Nat.mul_add, h5, Nat.mul_add]
    have h7 : A * (B * w) = B * (A * w) := by grind
    omega
  have d1 : B ∣ A * (n - r) + 1 + A * (B * x0) := by rw [e]; exact Nat.dvd_add hx0 (Nat.dvd_mul_right _ _)
  have d2 : B ∣ A * (B * x0) := ⟨A * x0, by grind⟩
  exact (Nat.dvd_add_iff_left d2).mpr d1
theorem behind_loop {A B n : Nat} (hA : A ≤ 200) (hB : 0 < B) (hBn : B ≤ n) (hn : n ≤ 200) : ∀ (x fu y : Nat), x < fu → x ≤ n → y ≤ x → n < B + y → (A * y + 1) % B = 0 → ∃ d, fX2_bottomBehind_L2 fu (nI n) (nI A) (nI B) (nI x) = some (nI d) ∧ n < B + d ∧ d ≤ n ∧ (A * d + 1) % B = 0 := by
  intro x
  induction x with
  | zero =>
    intro fu y hf hx hy h1 h2
    omega
  | succ x ih =>
    intro fu y hf hx hy h1 h2
    obtain ⟨fu, rfl⟩ : ∃ g, fu = g + 1 := ⟨fu - 1, by omega⟩
    have m1 := Nat.mul_le_mul hA (by omega : x + 1 ≤ 200)
    show ∃ d, fX2_bottomBehind_B2 (fX2_bottomBehind_L2 fu) _ _ _ _ = some (nI d) ∧ _
    unfold fX2_bottomBehind_B2
    have e1 : nI A * nI (x + 1) + 1 = nI (A * (x + 1) + 1) := by rw [pk_mul, nI_1]
    have e2 : nI (x + 1) + -1 = nI x := pk_m1 x
    rw [pk_sub hBn, if_neg (nI_ge (by omega) (by omega)), if_neg (nI_nle hB (by omega)), ckZ_n hB (by omega), e1, pk_rem (by omega) hB (by omega), nm_x, e2]
    by_cases h3 : (A * (x + 1) + 1) % B = 0
    · rw [h3, if_pos (by decide)]
      exact ⟨x + 1, rfl, by omega, hx, h3⟩
    · have hml := Nat.mod_lt (A * (x + 1) + 1) hB
      rw [if_neg (nI_ne0 (by omega) (by omega))]
      have hyx : y ≠ x + 1 := fun hh => h3 (by rw [← hh]; exact h2)
      exact ih fu y (by omega) (by omega) (by omega) h1 h2
theorem stepOn_loop {n k i0 : Nat} (hn : n ≤ 200) (hk : k < cAll n) (hkb : k < 2 ^ 31) (qs ts bs : Nat → Int32) (cn : Int32) (hi0 : i0 ≤ k) : ∀ (e j a b c d fu : Nat), j + e = k - i0 → e < fu → Far n (i0 + j) a b c d → ∃ a' b' c' d' qs' ts' bs' cn', Far n k a' b' c' d' ∧ fX3_stepOn_L49 fu qs ts bs cn (nI n) (nI (k - i0)) (nI a) (nI b) (nI d) (nI c) (nI j) = some (qs', ts', bs', cn') ∧ SOk a' b' qs' ts' bs' cn' := by
  intro e
  induction e with
  | zero =>
    intro j a b c d fu hj hf h
    obtain ⟨fu, rfl⟩ : ∃ g, fu = g + 1 := ⟨fu - 1, by omega⟩
    have hjk : j = k - i0 := by omega
    have hF : Far n k a b c d := by have e9 : i0 + j = k := by omega
                                    rw [e9] at h; exact h
    have hinv : Inv a b := ⟨h.cop, by have := h.2.2.2.2.2.2.1; have := h.2.2.1; omega, h.2.1, by have := h.2.2.1; omega⟩
    obtain ⟨qs', ts', bs', cn', ex, hx⟩ := expand_S1 qs ts bs cn hinv
    refine ⟨a, b, c, d, qs', ts', bs', cn', hF, ?_, hx⟩
    show fX3_stepOn_B49 _ qs ts bs cn _ _ _ _ _ _ _ = _
    unfold fX3_stepOn_B49 fX3_stepOn_J109
    rw [if_pos (nI_le (by omega) (by omega)), bd4_e ex]
  | succ e ih =>
    intro j a b c d fu hj hf h
    obtain ⟨fu, rfl⟩ : ∃ g, fu = g + 1 := ⟨fu - 1, by omega⟩
    obtain ⟨s1, s2, s3⟩ := h.step (by omega)
    have hd0 := h.2.2.2.1
    have hdn := h.2.2.2.2.1
    have hbn := h.2.2.1
    have e9 : i0 + j + 1 = i0 + (j + 1) := by omega
    rw [e9] at s1
    obtain ⟨a', b', c', d', qs', ts', bs', cn', hF, e1, hx⟩ := ih (j + 1) c d _ _ fu (by omega) (by omega) s1
    refine ⟨a', b', c', d', qs', ts', bs', cn', hF, ?_, hx⟩
    show fX3_stepOn_B49 (fX3_stepOn_L49 fu) qs ts bs cn _ _ _ _ _ _ _ = _
    unfold fX3_stepOn_B49
    rw [if_neg (nI_ge (by omega) (by omega)), if_neg (nI_nle hd0 (by omega)), ckZ_n hd0 (by omega), nm_x, nm_x, nm_x, nm_x, nI_add, pk_div (by omega) hd0 (by omega), pk_mul, pk_mul, pk_sub s2, pk_sub s3, nI_1]
    exact e1
theorem op_pick {P Q : Nat} {qs ts bs : Nat → Int32} {cn : Int32} (h : SOk P Q qs ts bs cn) {mo : Nat → Int32} (hR : ROk mo) (mth n k : Int32) : ∃ r P' Q' qs' ts' bs' cn', fX3_pick mo qs ts bs cn n k = some (r, qs', ts', bs', cn') ∧ SOk P' Q' qs' ts' bs' cn' ∧ fX4_pick mth (nI P) (nI Q) n k = some (r, 0, nI P', nI Q') := by
  obtain ⟨y, hy, rfl⟩ := iI_of n
  unfold fX3_pick fX4_pick
  by_cases hn : 1 ≤ y ∧ y ≤ 200
  · have w2 : fX3_isWithin (iI y) 1 200 = some 1 := by rw [iI1, i200]; exact wi_y hy ⟨by omega, by omega⟩ ⟨by omega, by omega⟩ hn
    obtain ⟨m, hm, hmy⟩ := iI_nat (by omega : 0 ≤ y)
    rw [bd1_e w2, if_neg (by decide), hmy, bd2_e (mrow_ok (by omega) (by omega) mth)]
    rcases i_cases k with hk | ⟨z, hz, rfl, hk⟩
    · rw [if_pos hk, if_pos hk]
      exact ⟨_, P, Q, _, _, _, _, rfl, h, rfl⟩
    · rw [if_neg hk, if_neg hk, bd1_e (countAll_ok hR (by omega))]
      have hcAll : cAll m < 1000000 := by
        have hsm : ∀ (f : Nat → Nat) (t B : Nat), (∀ i, i < t → f i ≤ B) → sm f t ≤ t * B := fun f t B hf => by
          induction t with
          | zero => exact Nat.zero_le _
          | succ t ih =>
            show sm f t + f t ≤ (t + 1) * B
            have := ih (fun i hi => hf i (by omega))
            have := hf t (by omega)
            rw [Nat.add_mul, Nat.one_mul]
            omega
        have : cI0 m 1 1 ≤ m * 200 := by
          unfold cI0
          refine hsm _ m 200 (fun b hb => ?_)
          have := hsm (fun a => if (a + 1) * 1 < 1 * (b + 1) ∧ Nat.gcd (a + 1) (b + 1) = 1 then 1 else 0) (b + 1) 1 (fun a _ => by
            show (if (a + 1) * 1 < 1 * (b + 1) ∧ Nat.gcd (a + 1) (b + 1) = 1 then 1 else 0) ≤ 1
            split <;> omega)
          omega
        unfold cAll
        omega
      rcases Nat.lt_or_ge z (cAll m) with h1 | h1
      · have hlt : nI z < nI (cAll m) := nI_lt h1 (by omega)
        rw [if_pos hlt, if_pos hlt]
        obtain ⟨col, ec, hc1, hc2⟩ := columnOf_ok hR (n := m) (k := z) (by omega) (by omega) hz
        obtain ⟨qs1, ts1, bs1, cn1, ex, hx⟩ := expand_S (p := col) (q := m) qs ts bs cn (by omega) (by omega) (by omega)
        rw [bd1_e ec, bd4_e ex, bd1_e (countBelow_ok hR (by omega) (by omega) (by omega)), pk_sub hc2]
        have hg0 : 0 < Nat.gcd col m := Nat.gcd_pos_of_pos_right _ (by omega)
        have d1 : Nat.gcd col m * (col / Nat.gcd col m) = col := Nat.mul_div_cancel' (Nat.gcd_dvd_left _ _)
        have d2 : Nat.gcd col m * (m / Nat.gcd col m) = m := Nat.mul_div_cancel' (Nat.gcd_dvd_right _ _)
        have hAB : col / Nat.gcd col m ≤ m / Nat.gcd col m := Nat.div_le_div_right hc1
        have hBm : m / Nat.gcd col m ≤ m := Nat.div_le_self _ _
        have hcb : cBel m col m = cBel m (col / Nat.gcd col m) (m / Nat.gcd col m) := by
          have := cBel_scale (n := m) (A := col / Nat.gcd col m) (B := m / Nat.gcd col m) hg0
          rw [d1, d2] at this
          exact this
        have hBp := hx.1.2.2.1
        generalize hA : col / Nat.gcd col m = A at *
        generalize hB : m / Nat.gcd col m = B at *
        obtain ⟨yy, y1, y2, y3⟩ := behind_ex hBp hBm hx.1.1
        obtain ⟨d, ed, hd1, hd2, hd3⟩ := behind_loop (A := A) (B := B) (n := m) (by omega) hBp hBm (by omega) m FU yy (by rw [FU_pos]; omega) (Nat.le_refl _) y2 y1 y3
        have hdv : B ∣ A * d + 1 := Nat.dvd_of_mod_eq_zero hd3
        have hcd : (A * d + 1) / B * B = A * d + 1 := Nat.div_mul_cancel hdv
        have hmd := Nat.mul_le_mul (by omega : A ≤ 200) (by omega : d ≤ 200)
        have hF0 : Far m (cBel m col m + 0) A B ((A * d + 1) / B) d := ⟨hcd, hBp, hBm, by omega, hd2, hd1, hAB, by rw [hcb]; rfl⟩
        obtain ⟨a', b', c', d', qs', ts', bs', cn', hF, es, hS⟩ := stepOn_loop (by omega : m ≤ 200) h1 hz qs1 ts1 bs1 cn1 hc2 (z - cBel m col m) 0 A B _ d FU (by omega) (by rw [FU_pos]; omega) hF0
        obtain ⟨a2, b2, c2, d2', hF2, em⟩ := mpick_loop (n := m) (k := z) (by omega) h1 hz (nI P) (nI Q) z 0 0 1 1 m FU (by omega) (by rw [FU_pos]; omega) (Far.first (by omega))
        obtain ⟨rfl, rfl, -, -⟩ := hF.uniq hF2
        have hst : fX3_stepOn qs1 ts1 bs1 cn1 (nI m) (nI (z - cBel m col m)) = some (qs', ts', bs', cn') := by
          unfold fX3_stepOn
          have ed' : fX2_bottomBehind (nI m) (nI A) (nI B) = some (nI d) := ed
          have e9 : nI A * nI d + 1 = nI (A * d + 1) := by rw [pk_mul, nI_1]
          rw [bd1_e hx.top, bd1_e hx.bottom, bd1_e ed', if_neg (nI_nle hBp (by omega)), ckZ_n hBp (by omega), e9, pk_div (by omega) hBp (by omega)]
          exact es
        rw [bd4_e hst]
        refine ⟨_, a', b', _, _, _, _, rfl, hS, ?_⟩
        exact em
      · have hge : ¬ nI z < nI (cAll m) := nI_nlt h1 hz
        rw [if_neg hge, if_neg hge]
        exact ⟨_, P, Q, _, _, _, _, rfl, h, rfl⟩
  · have w2 : fX3_isWithin (iI y) 1 200 = some 0 := by rw [iI1, i200]; exact wi_n hy ⟨by omega, by omega⟩ ⟨by omega, by omega⟩ hn
    rw [bd1_e w2, if_pos rfl, bd2_e (mrow_no hy hn mth)]
    rcases i_cases k with hk | ⟨z, hz, rfl, hk⟩
    · rw [if_pos hk]
      exact ⟨_, P, Q, _, _, _, _, rfl, h, rfl⟩
    · rw [if_neg hk, if_neg (fun hh => by
        rw [iIm1, nI_iI] at hh
        have := (ic_lt ⟨by omega, by omega⟩ ⟨by omega, by omega⟩).mp hh
        omega)]
      exact ⟨_, P, Q, _, _, _, _, rfl, h, rfl⟩

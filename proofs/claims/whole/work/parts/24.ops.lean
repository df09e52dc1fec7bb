/-! class and reference beside each other: take, part, terms, term, convergent -/
def SOk (P Q : Nat) (qs ts bs : Nat → Int32) (cn : Int32) : Prop := Inv P Q ∧ EOk (cf P Q) qs ts bs cn
theorem SOk.top {P Q : Nat} {qs ts bs : Nat → Int32} {cn : Int32} (h : SOk P Q qs ts bs cn) : fX0_top ts cn = some (nI P) := by have := h.2.top; rw [cf_cH h.1.1] at this; exact this
theorem SOk.bottom {P Q : Nat} {qs ts bs : Nat → Int32} {cn : Int32} (h : SOk P Q qs ts bs cn) : fX0_bottom bs cn = some (nI Q) := by have := h.2.bottom; rw [cf_cK h.1.1] at this; exact this
theorem SOk.len {P Q : Nat} {qs ts bs : Nat → Int32} {cn : Int32} (h : SOk P Q qs ts bs cn) : (cf P Q).length ≤ 24 := len_lt (cf_len P Q) h.1.2.2.2
/-- expand of a fraction within the limits -/
theorem expand_S {p q : Nat} (qs ts bs : Nat → Int32) (cn : Int32) (hp : p ≤ 100000) (hq : q ≤ 100000) (h0 : 0 < q) : ∃ qs' ts' bs' cn', fX0_expand qs ts bs cn (nI p) (nI q) = some (qs', ts', bs', cn') ∧ SOk (p / Nat.gcd p q) (q / Nat.gcd p q) qs' ts' bs' cn' := by
  obtain ⟨a, b, c, d, e, h⟩ := expand_ok (p := p) (q := q) qs ts bs cn (by omega) hq
  obtain ⟨h1, h2⟩ := least_inv hp hq h0
  exact ⟨a, b, c, d, e, h1, by rw [h2]; exact h⟩
theorem expand_S1 {p q : Nat} (qs ts bs : Nat → Int32) (cn : Int32) (h : Inv p q) : ∃ qs' ts' bs' cn', fX0_expand qs ts bs cn (nI p) (nI q) = some (qs', ts', bs', cn') ∧ SOk p q qs' ts' bs' cn' := by
  obtain ⟨a, b, c, d, e, h1⟩ := expand_S (p := p) (q := q) qs ts bs cn h.2.1 h.2.2.2 h.2.2.1
  rw [h.1, Nat.div_one, Nat.div_one] at h1
  exact ⟨a, b, c, d, e, h1⟩
theorem op_part {P Q : Nat} {qs ts bs : Nat → Int32} {cn : Int32} (h : SOk P Q qs ts bs cn) (mth w : Int32) : ∃ r, fX3_part ts bs cn w = some r ∧ fX4_part (nI P) (nI Q) mth w = some (r, 0) := by
  unfold fX3_part fX4_part fX3_topOrBottom
  rw [bd1_e h.top, bd1_e h.bottom]
  by_cases h0 : w = 0
  · rw [if_pos h0, if_pos h0]; exact ⟨_, rfl, rfl⟩
  · rw [if_neg h0, if_neg h0]
    by_cases h1 : w = 1
    · rw [if_pos h1, if_pos h1]; exact ⟨_, rfl, rfl⟩
    · rw [if_neg h1, if_neg h1]; exact ⟨_, rfl, rfl⟩
theorem op_terms {P Q : Nat} {qs ts bs : Nat → Int32} {cn : Int32} (h : SOk P Q qs ts bs cn) (mth mmn : Int32) (mte : Nat → Int32) : ∃ r mmn' mte', fX3_terms cn = some r ∧ fX4_terms (nI P) (nI Q) mth mmn mte = some (r, 0, mmn', mte') := by
  obtain ⟨b, e, -⟩ := findTerms_ok h.1 mmn mte
  unfold fX3_terms fX4_terms
  rw [bd2_e e]
  exact ⟨_, _, _, rfl, by rw [h.2.1]⟩
theorem isTerm_ok {n : Nat} (hn : n < 2 ^ 31) {z : Int} (hz : mid z) : fX3_isTerm (nI n) (iI z) = some (if 0 ≤ z ∧ z < n then 1 else 0) := by
  unfold fX3_isTerm
  by_cases h1 : z < 0
  · rw [iI0, if_pos ((ic_lt hz ⟨by omega, by omega⟩).mpr h1), if_neg (by omega)]
  · rw [iI0, if_neg (fun h => h1 ((ic_lt hz ⟨by omega, by omega⟩).mp h)), nI_iI]
    by_cases h2 : (n : Int) ≤ z
    · rw [if_pos ((ic_le ⟨by omega, by omega⟩ hz).mpr h2), if_neg (by omega)]
    · rw [if_neg (fun h => h2 ((ic_le ⟨by omega, by omega⟩ hz).mp h)), if_pos (by omega), iI1]
theorem isTerm_y {n k : Nat} (hn : n < 2 ^ 31) (h : k < n) : fX3_isTerm (nI n) (nI k) = some 1 := by
  unfold fX3_isTerm
  rw [if_neg (nI_pos (by omega)), if_neg (nI_ge h hn)]
theorem isTerm_n {n k : Nat} (hk : k < 2 ^ 31) (h : n ≤ k) : fX3_isTerm (nI n) (nI k) = some 0 := by
  unfold fX3_isTerm
  rw [if_neg (nI_pos hk), if_pos (nI_le h hk)]
theorem isTerm_m {n z : Int32} (h : z < 0) : fX3_isTerm n z = some 0 := by
  unfold fX3_isTerm
  rw [if_pos h]
/-- an int: below 0, or a number -/
theorem i_cases (x : Int32) : x < 0 ∨ ∃ k : Nat, k < 2 ^ 31 ∧ x = nI k ∧ ¬ x < 0 := by
  by_cases h : x < 0
  · exact Or.inl h
  · obtain ⟨k, h1, h2⟩ := nI_of h
    exact Or.inr ⟨k, h1, h2, h⟩
theorem op_term {P Q : Nat} {qs ts bs : Nat → Int32} {cn : Int32} (h : SOk P Q qs ts bs cn) (mth mmn i : Int32) (mte : Nat → Int32) : ∃ r mmn' mte', fX3_term qs cn i = some r ∧ fX4_term (nI P) (nI Q) mth mmn mte i = some (r, 0, mmn', mte') := by
  obtain ⟨b, e, hb⟩ := findTerms_ok h.1 mmn mte
  have hl := h.len
  unfold fX3_term fX4_term
  rw [bd2_e e, h.2.1]
  rcases i_cases i with hi | ⟨k, hk, rfl, hi⟩
  · rw [bd1_e (isTerm_m hi), if_pos rfl, if_pos hi]; exact ⟨_, _, _, rfl, rfl⟩
  · rw [if_neg hi]
    rcases Nat.lt_or_ge k (cf P Q).length with h3 | h3
    · have h4 : ¬ nI (cf P Q).length ≤ nI k := nI_ge h3 (by omega)
      have h5 : ¬ (1 : Int32) = 0 := by decide
      rw [bd1_e (isTerm_y (by omega) h3), if_neg h5, if_neg h4, ck_in (by omega) (by decide), ck_in (by omega) (by decide), nI_clamp hk, h.2.2.2.1 k h3, hb k h3]
      exact ⟨_, _, _, rfl, rfl⟩
    · have h4 : nI (cf P Q).length ≤ nI k := nI_le h3 hk
      rw [bd1_e (isTerm_n hk h3), if_pos rfl, if_pos h4]
      exact ⟨_, _, _, rfl, rfl⟩

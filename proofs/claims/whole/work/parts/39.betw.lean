/-! between, class and reference -/
theorem mbetw_loop {p q r s X Y : Nat} (hp : p ≤ 5000) (hq : q ≤ 5000) (hr : r ≤ 5000) (hs : s ≤ 5000) (hq0 : 0 < q) (hps : p * s < r * q) (hY : Y ≤ 10000) (hX1 : p * Y < X * q) (hX2 : X * s < r * Y) (hmin : ∀ x y, p * y < x * q → x * s < r * y → Y ≤ y ∧ X ≤ x) (mtp mbt : Int32) : ∀ (d b fu : Nat), b + d = Y → d < fu → fX4_between_L92 fu 0 mtp mbt (nI p) (nI q) (nI r) (nI s) (nI b) = some (1, 0, nI X, nI Y) := by
  intro d
  induction d with
  | zero =>
    intro b fu hb hf
    obtain ⟨fu, rfl⟩ : ∃ g, fu = g + 1 := ⟨fu - 1, by omega⟩
    have hbY : b = Y := by omega
    subst hbY
    show fX4_between_B92 _ 0 mtp mbt (nI p) (nI q) (nI r) (nI s) (nI b) = _
    unfold fX4_between_B92
    have m1 : p * b ≤ 5000 * 10000 := Nat.mul_le_mul hp hY
    have m2 : r * b ≤ 5000 * 10000 := Nat.mul_le_mul hr hY
    have eX : p * b / q + 1 = X := by
      have h1 : p * b / q * q ≤ p * b := Nat.div_mul_le_self _ _
      have h2 : p * b / q < X := Nat.lt_of_mul_lt_mul_right (Nat.lt_of_le_of_lt h1 hX1)
      have h3 : X ≤ p * b / q + 1 := by
        have h4 : p * b < (p * b / q + 1) * q := by
          have := Nat.div_add_mod (p * b) q
          have h5 := Nat.mod_lt (p * b) hq0
          rw [Nat.add_mul, Nat.one_mul, Nat.mul_comm (p * b / q) q]
          omega
        rcases Nat.lt_or_ge (p * b / q + 1) X with h6 | h6
        · have h7 : (p * b / q + 1) * s < r * b := Nat.lt_of_le_of_lt (Nat.mul_le_mul_right _ (Nat.le_of_lt h6)) hX2
          exact (hmin _ b h4 h7).2
        · exact h6
      omega
    have hc : nI (X * s) < nI (r * b) := nI_lt hX2 (by omega)
    rw [ckZ_n hq0 (by omega), ckZ_n hq0 (by omega), nm_x, pk_mul, pk_div (by omega) hq0 (by omega), nI_1, eX, pk_mul, pk_mul, if_pos hc]
  | succ d ih =>
    intro b fu hb hf
    obtain ⟨fu, rfl⟩ : ∃ g, fu = g + 1 := ⟨fu - 1, by omega⟩
    show fX4_between_B92 (fX4_between_L92 fu) 0 mtp mbt (nI p) (nI q) (nI r) (nI s) (nI b) = _
    unfold fX4_between_B92
    have m1 : p * b ≤ 5000 * 10000 := Nat.mul_le_mul hp (by omega)
    have m2 : r * b ≤ 5000 * 10000 := Nat.mul_le_mul hr (by omega)
    have h1 : p * b / q * q ≤ p * b := Nat.div_mul_le_self _ _
    have h4 : p * b < (p * b / q + 1) * q := by
      have := Nat.div_add_mod (p * b) q
      have h5 := Nat.mod_lt (p * b) hq0
      rw [Nat.add_mul, Nat.one_mul, Nat.mul_comm (p * b / q) q]
      omega
    have m3 : p * b / q * s ≤ r * b := by
      have e1 : p * b / q * s * q ≤ r * b * q := by
        have := Nat.mul_le_mul_right s h1
        have e2 : p * b / q * q * s = p * b / q * s * q := by grind
        have e3 : p * b * s = p * s * b := by grind
        have e4 : r * b * q = r * q * b := by grind
        have := Nat.mul_le_mul_right b (Nat.le_of_lt hps)
        omega
      exact Nat.le_of_mul_le_mul_right e1 hq0
    have m4 : (p * b / q + 1) * s = p * b / q * s + s := by rw [Nat.add_mul, Nat.one_mul]
    have hc : ¬ nI ((p * b / q + 1) * s) < nI (r * b) := nI_nlt (by
      rcases Nat.lt_or_ge ((p * b / q + 1) * s) (r * b) with h6 | h6
      · have := (hmin _ b h4 h6).1; omega
      · exact h6) (by omega)
    rw [ckZ_n hq0 (by omega), pk_mul, pk_div (by omega) hq0 (by omega), nI_1, pk_mul, pk_mul, if_neg hc, nm_x, nI_1]
    exact ih (b + 1) fu (by omega) (by omega)
theorem between_ok {p q r s : Nat} (hp : p ≤ 5000) (hq : q ≤ 5000) (hr : r ≤ 5000) (hs : s ≤ 5000) (hq0 : 0 < q) (hps : p * s < r * q) : ∃ X Y, (∀ (qs ts bs : Nat → Int32) (cn : Int32), ∃ qs' ts' bs' cn', fX0_expandSimplest qs ts bs cn (nI p) (nI q) (nI r) (nI s) = some (qs', ts', bs', cn') ∧ SOk X Y qs' ts' bs' cn') ∧ ∀ mtp mbt : Int32, fX4_between_L92 FU 0 mtp mbt (nI p) (nI q) (nI r) (nI s) 1 = some (1, 0, nI X, nI Y) := by
  obtain ⟨h1, h2, h3, h4⟩ := sb_ok (q + s + 1) p q r s (by omega) hq0 hps
  have hm := h3 (p + r) (q + s) (by have e1 : p * (q + s) = p * q + p * s := by grind
                                    have e2 : (p + r) * q = p * q + r * q := by grind
                                    omega) (by
                                    have e1 : (p + r) * s = p * s + r * s := by grind
                                    have e2 : r * (q + s) = r * q + r * s := by grind
                                    omega)
  have hlen := cf_len (cH (sbF (q + s + 1) p q r s)) (cK (sbF (q + s + 1) p q r s))
  rw [h4] at hlen
  have hl2 := len_lt hlen (by omega)
  have hY0 : 0 < cK (sbF (q + s + 1) p q r s) := by
    rcases Nat.eq_zero_or_pos (cK (sbF (q + s + 1) p q r s)) with hz | hz
    · rw [hz, Nat.mul_zero] at h2; omega
    · exact hz
  refine ⟨cH (sbF (q + s + 1) p q r s), cK (sbF (q + s + 1) p q r s), ?_, ?_⟩
  · intro qs ts bs cn
    obtain ⟨ts1, bs1, e1, k1⟩ := fX0_startAnew_ok qs ts bs cn
    obtain ⟨a, b, c, d, e, k⟩ := simp_loop (q + s + 1) p q r s 0 FU [] qs ts1 bs1 0 k1 hp hq hr hs (by omega) hq0 hps rfl (by simp; omega) (by rw [FU_pos]; omega)
    refine ⟨a, b, c, d, ?_, ⟨c_cop _, by omega, hY0, by omega⟩, ?_⟩
    · unfold fX0_expandSimplest
      rw [e1]
      exact e
    · rw [h4]; exact k
  · intro mtp mbt
    exact mbetw_loop hp hq hr hs hq0 hps (by omega) h1 h2 h3 mtp mbt (cK (sbF (q + s + 1) p q r s) - 1) 1 FU (by omega) (by rw [FU_pos]; omega)

/-! between -/
def sbF : Nat → Nat → Nat → Nat → Nat → List Nat
  | 0, _, _, _, _ => []
  | f + 1, p, q, r, s => if (p / q + 1) * s < r then [p / q + 1] else p / q :: sbF f s (r - p / q * s) q (p - p / q * q)
theorem sb_step {p q r s : Nat} (hq : 0 < q) (h : p * s < r * q) : p / q * q ≤ p ∧ p - p / q * q < q ∧ p / q * s < r := by
  have h1 : p / q * q ≤ p := Nat.div_mul_le_self p q
  have h2 := Nat.div_add_mod p q
  have h3 := Nat.mod_lt p hq
  rw [Nat.mul_comm] at h2
  refine ⟨h1, by omega, ?_⟩
  have h4 : p / q * s * q ≤ p * s := by
    have := Nat.mul_le_mul_right s h1
    have e : p / q * q * s = p / q * s * q := by grind
    omega
  exact Nat.lt_of_mul_lt_mul_right (Nat.lt_of_le_of_lt h4 h)
theorem sb_next {p q r s : Nat} (hq : 0 < q) (h : p * s < r * q) : s * (p - p / q * q) < q * (r - p / q * s) := by
  obtain ⟨h1, h2, h3⟩ := sb_step hq h
  generalize p / q = w at *
  obtain ⟨a, ha⟩ : ∃ a, p = w * q + a := ⟨p - w * q, by omega⟩
  obtain ⟨b, hb⟩ : ∃ b, r = w * s + b := ⟨r - w * s, by omega⟩
  have e1 : p - w * q = a := by omega
  have e2 : r - w * s = b := by omega
  rw [e1, e2]
  rw [ha, hb] at h
  have e3 : (w * q + a) * s = w * q * s + s * a := by grind
  have e4 : (w * s + b) * q = w * q * s + q * b := by grind
  omega
theorem sb_ok : ∀ (f p q r s : Nat), q + s < f → 0 < q → p * s < r * q → p * cK (sbF f p q r s) < cH (sbF f p q r s) * q ∧ cH (sbF f p q r s) * s < r * cK (sbF f p q r s) ∧ (∀ x y, p * y < x * q → x * s < r * y → cK (sbF f p q r s) ≤ y ∧ cH (sbF f p q r s) ≤ x) ∧ cf (cH (sbF f p q r s)) (cK (sbF f p q r s)) = sbF f p q r s
  | 0, p, q, r, s, hf, _, _ => by omega
  | f + 1, p, q, r, s, hf, hq, h => by
    obtain ⟨h1, h2, h3⟩ := sb_step hq h
    have hn := sb_next hq h
    unfold sbF
    by_cases hc : (p / q + 1) * s < r
    · rw [if_pos hc]
      have c1 : cH [p / q + 1] = p / q + 1 := by simp [cH_cons, cH_nil, cK_nil]
      have c2 : cK [p / q + 1] = 1 := by simp [cK_cons, cH_nil]
      rw [c1, c2]
      refine ⟨?_, by omega, ?_, ?_⟩
      · rw [Nat.mul_one, Nat.add_mul, Nat.one_mul]; omega
      · intro x y hx hy
        have hy0 : 0 < y := by
          rcases Nat.eq_zero_or_pos y with hz | hz
          · rw [hz, Nat.mul_zero] at hy; omega
          · exact hz
        refine ⟨hy0, ?_⟩
        have h5 : p ≤ p * y := Nat.le_mul_of_pos_right _ hy0
        have h6 : p / q * q < x * q := by omega
        have := Nat.lt_of_mul_lt_mul_right h6
        omega
      · rw [cf_pos _ (by omega : 0 < 1), Nat.div_one, Nat.mod_one, cf_zero]
    · rw [if_neg hc]
      have h9 : (p / q + 1) * s = p / q * s + s := by rw [Nat.add_mul, Nat.one_mul]
      obtain ⟨i1, i2, i3, i4⟩ := sb_ok f s (r - p / q * s) q (p - p / q * q) (by omega) (by omega) hn
      generalize sbF f s (r - p / q * s) q (p - p / q * q) = L at *
      rw [cH_cons, cK_cons]
      generalize hw : p / q = w at *
      obtain ⟨a, ha⟩ : ∃ a, p = w * q + a := ⟨p - w * q, by omega⟩
      obtain ⟨b, hb⟩ : ∃ b, r = w * s + b := ⟨r - w * s, by omega⟩
      have e1 : p - w * q = a := by omega
      have e2 : r - w * s = b := by omega
      simp only [e1, e2] at hn i1 i2 i3
      refine ⟨?_, ?_, ?_, ?_⟩
      · rw [ha]
        have e3 : (w * q + a) * cH L = w * cH L * q + cH L * a := by grind
        have e4 : (w * cH L + cK L) * q = w * cH L * q + q * cK L := by grind
        omega
      · rw [hb]
        have e3 : (w * cH L + cK L) * s = w * cH L * s + s * cK L := by grind
        have e4 : (w * s + b) * cH L = w * cH L * s + cH L * b := by grind
        omega
      · intro x y hx hy
        have hwy : w * y ≤ x := by
          have h5 : w * y * q < x * q := by
            rw [ha] at hx
            have e5 : (w * q + a) * y = w * y * q + a * y := by grind
            omega
          exact Nat.le_of_lt (Nat.lt_of_mul_lt_mul_right h5)
        obtain ⟨x', hx'⟩ : ∃ x', x = w * y + x' := ⟨x - w * y, by omega⟩
        have j1 : s * x' < y * b := by
          rw [hx', hb] at hy
          have e5 : (w * y + x') * s = w * y * s + s * x' := by grind
          have e6 : (w * s + b) * y = w * y * s + y * b := by grind
          omega
        have j2 : y * a < q * x' := by
          rw [hx', ha] at hx
          have e5 : (w * q + a) * y = w * y * q + y * a := by grind
          have e6 : (w * y + x') * q = w * y * q + q * x' := by grind
          omega
        obtain ⟨k1, k2⟩ := i3 y x' j1 j2
        refine ⟨k2, ?_⟩
        have := Nat.mul_le_mul_left w k2
        omega
      · have hs0 : 0 < s := by
          rcases Nat.eq_zero_or_pos s with hz | hz
          · subst hz; omega
          · exact hz
        have hbs : b ≤ s := by omega
        have hlt : cK L < cH L := by
          have h5 : cH L * b ≤ cH L * s := Nat.mul_le_mul_left _ hbs
          have h6 : s * cK L < s * cH L := by rw [Nat.mul_comm s (cH L)]; omega
          exact Nat.lt_of_mul_lt_mul_left h6
        rw [cf_pos _ (by omega : 0 < cH L)]
        have e7 : (w * cH L + cK L) / cH L = w := by
          rw [Nat.add_comm, Nat.add_mul_div_right _ _ (by omega), Nat.div_eq_of_lt hlt]; omega
        have e8 : (w * cH L + cK L) % cH L = cK L := by
          rw [Nat.add_comm, Nat.add_mul_mod_self_right, Nat.mod_eq_of_lt hlt]
        rw [e7, e8, i4]
theorem simp_end {qs ts bs : Nat → Int32} {cn : Int32} (fu : Nat) (p q r s i : Int32) : fX0_expandSimplest_L10 (fu + 1) qs ts bs cn p q r s 1 i = some (qs, ts, bs, cn) := by
  show fX0_expandSimplest_B10 _ qs ts bs cn p q r s 1 i = _
  unfold fX0_expandSimplest_B10
  split
  · rfl
  · split
    · rfl
    · rw [if_neg (by decide)]
theorem simp_loop : ∀ (f p q r s i fu : Nat) (l : List Nat) (qs ts bs : Nat → Int32) (cn : Int32), EOk l qs ts bs cn → p ≤ 5000 → q ≤ 5000 → r ≤ 5000 → s ≤ 5000 → q + s < f → 0 < q → p * s < r * q → i = l.length → l.length + (sbF f p q r s).length ≤ 32 → (sbF f p q r s).length + 1 < fu → ∃ qs' ts' bs' cn', fX0_expandSimplest_L10 fu qs ts bs cn (nI p) (nI q) (nI r) (nI s) 0 (nI i) = some (qs', ts', bs', cn') ∧ EOk (l ++ sbF f p q r s) qs' ts' bs' cn'
  | 0, p, q, r, s, i, fu, l, qs, ts, bs, cn, _, _, _, _, _, hf, _, _, _, _, _ => by omega
  | f + 1, p, q, r, s, i, fu, l, qs, ts, bs, cn, h, hp, hq, hr, hs, hf, hq0, hps, hi, hlen, hfu => by
    obtain ⟨h1, h2, h3⟩ := sb_step hq0 hps
    have hn := sb_next hq0 hps
    have hwp : p / q ≤ p := Nat.div_le_self _ _
    have hws : (p / q + 1) * s ≤ 5001 * 5000 := Nat.mul_le_mul (by omega) hs
    have hsb : sbF (f + 1) p q r s = if (p / q + 1) * s < r then [p / q + 1] else p / q :: sbF f s (r - p / q * s) q (p - p / q * q) := rfl
    obtain ⟨fu, rfl⟩ : ∃ g, fu = g + 2 := ⟨fu - 2, by omega⟩
    show ∃ qs' ts' bs' cn', fX0_expandSimplest_B10 (fX0_expandSimplest_L10 (fu + 1)) qs ts bs cn (nI p) (nI q) (nI r) (nI s) 0 (nI i) = some (qs', ts', bs', cn') ∧ _
    unfold fX0_expandSimplest_B10
    have h32 : ¬ (32 : Int32) ≤ nI i := by
      rw [nI32]
      have : 0 < (sbF (f + 1) p q r s).length := by rw [hsb]; split <;> simp
      exact nI_ge (by omega) (by decide)
    have e1 : (nI (p / q) + 1) * nI s = nI ((p / q + 1) * s) := by rw [nI_1, pk_mul]
    rw [if_neg h32, if_neg (nI_nle hq0 (by omega)), if_pos rfl, ckZ_n hq0 (by omega), nm_x, pk_div (by omega) hq0 (by omega), e1]
    rw [hsb] at hlen hfu ⊢
    by_cases hc : (p / q + 1) * s < r
    · rw [if_pos hc] at hlen hfu ⊢
      have hc' : ¬ nI r ≤ nI ((p / q + 1) * s) := nI_ge hc (by omega)
      obtain ⟨qs1, ts1, bs1, cn1, e2, h4⟩ := h.addTerm (by simp at hlen; omega) (p / q + 1)
      rw [if_neg hc']
      unfold fX0_expandSimplest_J47 fX0_expandSimplest_J64
      rw [if_neg (by decide), nI_1, bd4_e e2, nm_x, nm_x, nm_x]
      exact ⟨_, _, _, _, simp_end fu _ _ _ _ _, h4⟩
    · rw [if_neg hc] at hlen hfu ⊢
      have hc' : nI r ≤ nI ((p / q + 1) * s) := nI_le (by omega) (by omega)
      have h9 : (p / q + 1) * s = p / q * s + s := by rw [Nat.add_mul, Nat.one_mul]
      rw [List.length_cons] at hlen hfu
      obtain ⟨qs1, ts1, bs1, cn1, e2, h4⟩ := h.addTerm (by omega) (p / q)
      rw [if_pos hc']
      unfold fX0_expandSimplest_J47 fX0_expandSimplest_J64
      rw [if_pos rfl, bd4_e e2, nm_x, nm_x, nm_x, pk_mul, pk_mul, pk_sub h1, pk_sub (Nat.le_of_lt h3), nI_1]
      obtain ⟨qs2, ts2, bs2, cn2, e3, h5⟩ := simp_loop f s (r - p / q * s) q (p - p / q * q) (i + 1) (fu + 1) (l ++ [p / q]) qs1 ts1 bs1 cn1 h4 (by omega) (by omega) (by omega) (by omega) (by omega) (by omega) hn (by simp [hi]) (by simp; omega) (by omega)
      refine ⟨qs2, ts2, bs2, cn2, e3, ?_⟩
      rw [List.append_assoc] at h5
      exact h5

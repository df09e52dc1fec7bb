/-! near: the reference -/
def low2 (P Q u v z w : Nat) : Prop := ((P : Int) * v - u * Q) * w < ((z : Int) * Q - P * w) * v ∨ (((P : Int) * v - u * Q) * w = ((z : Int) * Q - P * w) * v ∧ v ≤ w)
def lowN (P Q u v z w way : Nat) : Prop := way = 0 ∨ (way = 2 ∧ low2 P Q u v z w)
theorem mul_big {a b c : Nat} (h : a * b ≤ c) : (a : Int) * b ≤ (c : Int) := by rw [← Int.natCast_mul]; exact Int.ofNat_le.mpr h
theorem near_b {P Q n u v z w : Nat} (hN : NOk P Q n u v z w) (hI : Inv P Q) (hn : n ≤ 1000) (hz : z ≤ 1000000000) (hu : u ≤ 1000000000) : big (((P : Int) * v - u * Q) * w) ∧ big (((z : Int) * Q - P * w) * v) := by
  obtain ⟨hv, hv2, hw, hw2, hl, hu2, -, -, -, -⟩ := hN
  have hlim := hI.2
  have m1 := Nat.mul_le_mul hlim.1 (Nat.le_trans hv2 hn)
  have m2 := Nat.mul_le_mul hz hlim.2.2
  have l1 : (u : Int) * Q ≤ P * v := by exact_mod_cast hl
  have l2 : (P : Int) * w ≤ z * Q := by exact_mod_cast hu2
  have n1 := mul_big m1
  have n2 := mul_big m2
  have n3 : 0 ≤ (u : Int) * Q := Int.mul_nonneg (by omega) (by omega)
  have n4 : 0 ≤ (P : Int) * w := Int.mul_nonneg (by omega) (by omega)
  have a1 := mul_abs (a := (P : Int) * v - u * Q) (b := w) (c := 100000000) (by omega) (by omega) (by omega) (by omega)
  have b0 : 0 ≤ ((z : Int) * Q - P * w) * v := Int.mul_nonneg (by omega) (by omega)
  have b1 : ((z : Int) * Q - P * w) * v ≤ 100000000000000 * 1000 := Int.mul_le_mul (by omega) (by omega) (by omega) (by omega)
  exact ⟨⟨by omega, by omega⟩, ⟨by omega, by omega⟩⟩
theorem low_cmp {P Q n u v z w : Nat} (hN : NOk P Q n u v z w) (hI : Inv P Q) (hn : n ≤ 1000) (hz : z ≤ 1000000000) (hu : u ≤ 1000000000) {α : Type} (x y : α) (B C : Int64) (c4 : Prop) [Decidable c4] (h4 : c4 ↔ ¬ v ≤ w) (hB : B = lI (((P : Int) * v - u * Q) * w)) (hC : C = lI (((z : Int) * Q - P * w) * v)) : (low2 P Q u v z w → (if lg_cmp B C < 0 then x else if lg_cmp B C = 0 then (if c4 then y else x) else y) = x) ∧ (¬ low2 P Q u v z w → (if lg_cmp B C < 0 then x else if lg_cmp B C = 0 then (if c4 then y else x) else y) = y) := by
  obtain ⟨b1, b2⟩ := near_b hN hI hn hz hu
  subst hB hC
  unfold low2
  generalize ((P : Int) * v - u * Q) * w = A at *
  generalize ((z : Int) * Q - P * w) * v = D at *
  by_cases h1 : A < D
  · have e1 := (lc_lt b1 b2).mpr h1
    refine ⟨fun _ => if_pos e1, fun h => absurd (Or.inl h1) h⟩
  · have e1 : ¬ lg_cmp (lI A) (lI D) < 0 := fun hh => h1 ((lc_lt b1 b2).mp hh)
    rw [if_neg e1]
    by_cases h2 : A = D
    · have e2 := (lc_eq b1 b2).mpr h2
      rw [if_pos e2]
      by_cases h3 : v ≤ w
      · refine ⟨fun _ => if_neg (fun hh => h4.mp hh h3), fun h => absurd (Or.inr ⟨h2, h3⟩) h⟩
      · refine ⟨fun h => ?_, fun _ => if_pos (h4.mpr h3)⟩
        rcases h with h | h
        · exact absurd h h1
        · exact absurd h.2 h3
    · have e2 : ¬ lg_cmp (lI A) (lI D) = 0 := fun hh => h2 ((lc_eq b1 b2).mp hh)
      rw [if_neg e2]
      refine ⟨fun h => ?_, fun _ => rfl⟩
      rcases h with h | h
      · exact absurd h h1
      · exact absurd h.1 h2
theorem mnear_step {P Q n u v z w : Nat} (hN : NOk P Q n u v z w) (hI : Inv P Q) (hn : n ≤ 1000) (K : Int32 → Int32 → Int32 → Int32 → Int64 → Int64 → Int64 → Int64 → Int64 → Option (Int32 × Int32)) (way what : Int32) {k a b c d : Nat} (hk : k < n) (h1 : nLw u v k a b) (h2 : nUp z w k c d) : ∃ a' b' c' d', nLw u v (k + 1) a' b' ∧ nUp z w (k + 1) c' d' ∧ fX4_near_B67 K (nI P) (nI Q) 0 (nI n) way what (lI a) (lI b) (lI c) (lI d) (lI ((k + 1 : Nat) : Int)) = K 0 (nI n) way what (lI a') (lI b') (lI c') (lI d') (lI ((k + 1 + 1 : Nat) : Int)) := by
  have hlim := hI.2
  have mP := Nat.mul_le_mul hlim.1 (by omega : k + 1 ≤ 1000)
  have hdm := Nat.div_add_mod (P * (k + 1)) Q
  have hml := Nat.mod_lt (P * (k + 1)) hlim.2.1
  obtain ⟨s1, s2⟩ := nLw_step hN hlim.2.1 hlim.1 hn hk h1
  have hpd : P * (k + 1) / Q ≤ 100000000 := Nat.le_trans (Nat.div_le_self _ _) (by omega)
  have dp : lI P * lI ((k + 1 : Nat) : Int) / lI Q = lI ((P * (k + 1) / Q : Nat) : Int) := by
    rw [lI_mul, ← Int.natCast_mul, lI_div (by omega) (by omega) (by omega) (by omega), Int.natCast_ediv]
  obtain ⟨r, hr1, hr2, hr3⟩ : ∃ r, P * (k + 1) ≤ r * Q ∧ r * Q < P * (k + 1) + Q ∧ ∀ x4 x6 x8 x10 : Int64, fX4_near_J120 K (nI P) (nI Q) 0 (nI n) way what x4 x6 x8 x10 (lI ((k + 1 : Nat) : Int)) (lI ((P * (k + 1) / Q : Nat) : Int)) = fX4_near_J149 K (nI P) (nI Q) 0 (nI n) way what x4 x6 x8 x10 (lI ((k + 1 : Nat) : Int)) (lI r) := by
    generalize hp : P * (k + 1) / Q = p at *
    have mp : p * Q ≤ 100000000 := by have := Nat.div_mul_le_self (P * (k + 1)) Q; rw [hp] at this; omega
    have b1 : big ((p : Int) * Q) := by
      have := mul_big mp
      have h0 : 0 ≤ (p : Int) * Q := Int.mul_nonneg (by omega) (by omega)
      exact ⟨by omega, by omega⟩
    have b2 : big ((P : Int) * ((k + 1 : Nat) : Int)) := by
      have := mul_big mP
      have h0 : 0 ≤ (P : Int) * ((k + 1 : Nat) : Int) := Int.mul_nonneg (by omega) (by omega)
      exact ⟨by omega, by omega⟩
    rw [Nat.mul_comm Q p] at hdm
    by_cases he : p * Q = P * (k + 1)
    · refine ⟨p, by omega, by omega, fun x4 x6 x8 x10 => ?_⟩
      unfold fX4_near_J120
      rw [nI_L (by omega), nI_L (by omega), lI_mul, lI_mul, if_pos ((lc_eq b1 b2).mpr (by exact_mod_cast he))]
    · refine ⟨p + 1, by rw [Nat.add_mul, Nat.one_mul]; omega, by rw [Nat.add_mul, Nat.one_mul]; omega, fun x4 x6 x8 x10 => ?_⟩
      unfold fX4_near_J120
      rw [nI_L (by omega), nI_L (by omega), lI_mul, lI_mul, if_neg (fun hh => he (by have := (lc_eq b1 b2).mp hh; exact_mod_cast this)), lI1, lI_add]
      push_cast
      rfl
  have hrle : r ≤ 1000000000 := by
    have h3 : r * Q < (P * (k + 1) + 1) * Q := by
      rw [Nat.add_mul, Nat.one_mul]
      have := Nat.le_mul_of_pos_right (P * (k + 1)) hlim.2.1
      omega
    have h4 := Nat.lt_of_mul_lt_mul_right h3
    omega
  obtain ⟨t1, t2⟩ := nUp_step hN hlim.2.1 hlim.1 hn hk hr1 hr2 h2
  obtain ⟨c', d', hU, hJ⟩ : ∃ c' d', nUp z w (k + 1) c' d' ∧ ∀ x4 x6 : Int64, fX4_near_J149 K (nI P) (nI Q) 0 (nI n) way what x4 x6 (lI c) (lI d) (lI ((k + 1 : Nat) : Int)) (lI r) = K 0 (nI n) way what x4 x6 (lI c') (lI d') (lI ((k + 1 + 1 : Nat) : Int)) := by
    have m1 : r * d ≤ 1000000000 * 1000 := Nat.mul_le_mul hrle h2.2.1
    have m2 : c * (k + 1) ≤ 1000000000 * 1000 := Nat.mul_le_mul h2.1 (by omega)
    have b1 : big ((r : Int) * d) := by
      have := mul_big m1
      have h0 : 0 ≤ (r : Int) * d := Int.mul_nonneg (by omega) (by omega)
      exact ⟨by omega, by omega⟩
    have b2 : big ((c : Int) * ((k + 1 : Nat) : Int)) := by
      have := mul_big m2
      have h0 : 0 ≤ (c : Int) * ((k + 1 : Nat) : Int) := Int.mul_nonneg (by omega) (by omega)
      exact ⟨by omega, by omega⟩
    have bd : big (d : Int) := ⟨by omega, by have := h2.2.1; omega⟩
    have b0 : big 0 := ⟨by omega, by omega⟩
    have e9 : lI ((k + 1 : Nat) : Int) + 1 = lI ((k + 1 + 1 : Nat) : Int) := by rw [lI1, lI_add]; push_cast; rfl
    by_cases hc : d = 0 ∨ r * d < c * (k + 1)
    · refine ⟨r, k + 1, t1 hc, fun x4 x6 => ?_⟩
      have hJ2 : fX4_near_J172 K (nI P) (nI Q) 0 (nI n) way what x4 x6 (lI ((k + 1 : Nat) : Int)) (lI r) = K 0 (nI n) way what x4 x6 (lI r) (lI ((k + 1 : Nat) : Int)) (lI ((k + 1 + 1 : Nat) : Int)) := by
        unfold fX4_near_J172 fX4_near_J180
        rw [nm_x, e9]
      unfold fX4_near_J149
      rw [hJ2]
      by_cases hd : d = 0
      · rw [if_pos (by rw [hd]; decide)]
      · have hlt : r * d < c * (k + 1) := hc.resolve_left hd
        rw [lI0, if_neg (fun hh => hd (by have := (lc_eq bd b0).mp hh; omega)), lI_mul, lI_mul, if_neg (fun hh => by
          have := (lc_ge b1 b2).mp hh
          have h9 : c * (k + 1) ≤ r * d := by exact_mod_cast this
          omega)]
    · refine ⟨c, d, t2 hc, fun x4 x6 => ?_⟩
      have hd : ¬ d = 0 := fun hh => hc (Or.inl hh)
      have hge : c * (k + 1) ≤ r * d := by
        rcases Nat.lt_or_ge (r * d) (c * (k + 1)) with h9 | h9
        · exact absurd (Or.inr h9) hc
        · exact h9
      unfold fX4_near_J149
      rw [lI0, if_neg (fun hh => hd (by have := (lc_eq bd b0).mp hh; omega)), lI_mul, lI_mul, if_pos ((lc_ge b1 b2).mpr (by exact_mod_cast hge))]
      unfold fX4_near_J180
      rw [nm_x, e9]
  have m1 : P * (k + 1) / Q * b ≤ 100000000 * 1000 := Nat.mul_le_mul hpd h1.2.1
  have m2 : a * (k + 1) ≤ 1000000000 * 1000 := Nat.mul_le_mul h1.1 (by omega)
  have b1 : big (((P * (k + 1) / Q : Nat) : Int) * b) := by
    have := mul_big m1
    have h0 : 0 ≤ ((P * (k + 1) / Q : Nat) : Int) * b := Int.mul_nonneg (Int.natCast_nonneg _) (by omega)
    exact ⟨by omega, by omega⟩
  have b2 : big ((a : Int) * ((k + 1 : Nat) : Int)) := by
    have := mul_big m2
    have h0 : 0 ≤ (a : Int) * ((k + 1 : Nat) : Int) := Int.mul_nonneg (by omega) (by omega)
    exact ⟨by omega, by omega⟩
  have bb : big (b : Int) := ⟨by omega, by have := h1.2.1; omega⟩
  have b0 : big 0 := ⟨by omega, by omega⟩
  have hbeg : fX4_near_B67 K (nI P) (nI Q) 0 (nI n) way what (lI a) (lI b) (lI c) (lI d) (lI ((k + 1 : Nat) : Int)) = if lg_cmp (lI b) (lI 0) = 0 then fX4_near_J112 K (nI P) (nI Q) 0 (nI n) way what (lI c) (lI d) (lI ((k + 1 : Nat) : Int)) (lI ((P * (k + 1) / Q : Nat) : Int)) else if lg_cmp (lI (((P * (k + 1) / Q : Nat) : Int) * b)) (lI ((a : Int) * ((k + 1 : Nat) : Int))) ≤ 0 then fX4_near_J120 K (nI P) (nI Q) 0 (nI n) way what (lI a) (lI b) (lI c) (lI d) (lI ((k + 1 : Nat) : Int)) (lI ((P * (k + 1) / Q : Nat) : Int)) else fX4_near_J112 K (nI P) (nI Q) 0 (nI n) way what (lI c) (lI d) (lI ((k + 1 : Nat) : Int)) (lI ((P * (k + 1) / Q : Nat) : Int)) := by
    unfold fX4_near_B67
    rw [nI_L (by omega), nI_L (by omega), nI_L (by omega), if_neg (fun hh => by have := (lc_gt ⟨by omega, by omega⟩ ⟨by omega, by omega⟩).mp hh; omega), ckL_n (by omega) ⟨by omega, by omega⟩, nm_x, dp, lI_mul, lI_mul]
    rfl
  rw [hbeg]
  by_cases hc : b = 0 ∨ a * (k + 1) < P * (k + 1) / Q * b
  · refine ⟨P * (k + 1) / Q, k + 1, c', d', s1 hc, hU, ?_⟩
    have hJ2 : fX4_near_J112 K (nI P) (nI Q) 0 (nI n) way what (lI c) (lI d) (lI ((k + 1 : Nat) : Int)) (lI ((P * (k + 1) / Q : Nat) : Int)) = K 0 (nI n) way what (lI ((P * (k + 1) / Q : Nat) : Int)) (lI ((k + 1 : Nat) : Int)) (lI c') (lI d') (lI ((k + 1 + 1 : Nat) : Int)) := by
      unfold fX4_near_J112
      rw [hr3, hJ]
    rw [hJ2]
    by_cases hb : b = 0
    · rw [if_pos (by rw [hb]; decide)]
    · have hlt : a * (k + 1) < P * (k + 1) / Q * b := hc.resolve_left hb
      rw [if_neg (fun hh => hb (by have := (lc_eq bb b0).mp hh; omega)), if_neg (fun hh => by
        have := (lc_le b1 b2).mp hh
        have h9 : P * (k + 1) / Q * b ≤ a * (k + 1) := by exact_mod_cast this
        omega)]
  · refine ⟨a, b, c', d', s2 hc, hU, ?_⟩
    have hb : ¬ b = 0 := fun hh => hc (Or.inl hh)
    have hge : P * (k + 1) / Q * b ≤ a * (k + 1) := by
      rcases Nat.lt_or_ge (a * (k + 1)) (P * (k + 1) / Q * b) with h9 | h9
      · exact absurd (Or.inr h9) hc
      · exact h9
    rw [if_neg (fun hh => hb (by have := (lc_eq bb b0).mp hh; omega)), if_pos ((lc_le b1 b2).mpr (by exact_mod_cast hge)), hr3, hJ]

/-! near: the two neighbours with small bottoms -/
/-- u / v is the greatest not above P / Q, z / w the least not below, bottoms up to n -/
def NOk (P Q n u v z w : Nat) : Prop := 0 < v ∧ v ≤ n ∧ 0 < w ∧ w ≤ n ∧ u * Q ≤ P * v ∧ P * w ≤ z * Q ∧ Nat.gcd u v = 1 ∧ Nat.gcd z w = 1 ∧ (∀ x y, 0 < y → y ≤ n → x * Q ≤ P * y → x * v ≤ u * y) ∧ ∀ x y, 0 < y → y ≤ n → P * y ≤ x * Q → z * y ≤ x * w
theorem NOk.self {P Q n : Nat} (h : Inv P Q) (hn : Q ≤ n) : NOk P Q n P Q P Q := ⟨h.2.2.1, hn, h.2.2.1, hn, Nat.le_refl _, Nat.le_refl _, h.1, h.1, fun _ _ _ _ hx => hx, fun _ _ _ _ hx => hx⟩
theorem NOk.adj {P Q n u v z w : Nat} (hv : 0 < v) (hv2 : v ≤ n) (hw : 0 < w) (hw2 : w ≤ n) (hs : n < v + w) (hd : z * v = u * w + 1) (hl : u * Q < P * v) (hu : P * w < z * Q) (hQ : 0 < Q) : NOk P Q n u v z w := by
  have hd' : (z : Int) * v - u * w = 1 := by
    have : ((z * v : Nat) : Int) = ((u * w + 1 : Nat) : Int) := by rw [hd]
    push_cast at this
    omega
  have g1 : Nat.gcd u v = 1 := by rw [Nat.gcd_comm]; exact gcd1_of (x := z) (y := w) (by rw [← hd']; grind)
  have g2 : Nat.gcd z w = 1 := gcd1_of (x := v) (y := u) (by rw [← hd']; grind)
  have key : ∀ x y : Nat, y ≤ n → u * y < x * v → x * w < z * y → False := fun x y hy h1 h2 => by
    have e : (y : Int) = v * ((z : Int) * y - x * w) + w * ((x : Int) * v - u * y) := by
      have : (v : Int) * ((z : Int) * y - x * w) + w * ((x : Int) * v - u * y) = y * ((z : Int) * v - u * w) := by grind
      rw [this, hd']; omega
    have h1' : (u : Int) * y < x * v := by exact_mod_cast h1
    have h2' : (x : Int) * w < z * y := by exact_mod_cast h2
    have m1 : (v : Int) * 1 ≤ v * ((z : Int) * y - x * w) := Int.mul_le_mul_of_nonneg_left (by omega) (by omega)
    have m2 : (w : Int) * 1 ≤ w * ((x : Int) * v - u * y) := Int.mul_le_mul_of_nonneg_left (by omega) (by omega)
    omega
  refine ⟨hv, hv2, hw, hw2, Nat.le_of_lt hl, Nat.le_of_lt hu, g1, g2, fun x y hy0 hy hx => ?_, fun x y hy0 hy hx => ?_⟩
  · rcases Nat.lt_or_ge (u * y) (x * v) with h9 | h9
    · exfalso
      refine key x y hy h9 ?_
      have h1 : x * w * Q < z * y * Q := by
        have a1 : x * Q * w ≤ P * y * w := Nat.mul_le_mul_right _ hx
        have a2 : P * w * y < z * Q * y := Nat.mul_lt_mul_of_pos_right hu hy0
        have e1 : x * w * Q = x * Q * w := by grind
        have e2 : z * y * Q = z * Q * y := by grind
        have e3 : P * y * w = P * w * y := by grind
        omega
      exact Nat.lt_of_mul_lt_mul_right h1
    · exact h9
  · rcases Nat.lt_or_ge (x * w) (z * y) with h9 | h9
    · exfalso
      refine key x y hy ?_ h9
      have h1 : u * y * Q < x * v * Q := by
        have a1 : P * y * v ≤ x * Q * v := Nat.mul_le_mul_right _ hx
        have a2 : u * Q * y < P * v * y := Nat.mul_lt_mul_of_pos_right hl hy0
        have e1 : x * v * Q = x * Q * v := by grind
        have e2 : u * y * Q = u * Q * y := by grind
        have e3 : P * y * v = P * v * y := by grind
        omega
      exact Nat.lt_of_mul_lt_mul_right h1
    · exact h9
/-- the reference's state on the way: the lower one, the upper one -/
def nLw (u v k a b : Nat) : Prop := a ≤ 1000000000 ∧ b ≤ 1000 ∧ ((k < v ∧ (b = 0 ∨ a * v < u * b)) ∨ (v ≤ k ∧ a = u ∧ b = v))
def nUp (z w k c d : Nat) : Prop := c ≤ 1000000000 ∧ d ≤ 1000 ∧ ((k < w ∧ (d = 0 ∨ z * d < c * w)) ∨ (w ≤ k ∧ c = z ∧ d = w))
theorem cop_le {a b c d : Nat} (h : Nat.gcd a b = 1) (e : c * b = a * d) (hd : 0 < d) : b ≤ d := by
  have h1 : b ∣ a * d := ⟨c, by rw [← e, Nat.mul_comm]⟩
  have h2 : b ∣ d := Nat.Coprime.dvd_of_dvd_mul_left (by rw [Nat.gcd_comm] at h; exact h) h1
  exact Nat.le_of_dvd hd h2
theorem nLw_step {P Q n u v z w k a b : Nat} (hN : NOk P Q n u v z w) (hQ : 0 < Q) (hP : P ≤ 100000) (hn : n ≤ 1000) (hk : k < n) (h : nLw u v k a b) : ((b = 0 ∨ a * (k + 1) < P * (k + 1) / Q * b) → nLw u v (k + 1) (P * (k + 1) / Q) (k + 1)) ∧ (¬ (b = 0 ∨ a * (k + 1) < P * (k + 1) / Q * b) → nLw u v (k + 1) a b) := by
  obtain ⟨h0, h01, h1⟩ := h
  obtain ⟨hv, hv2, -, -, hl, -, g1, -, hmax, -⟩ := hN
  have hp1 : P * (k + 1) / Q * Q ≤ P * (k + 1) := Nat.div_mul_le_self _ _
  have hm := hmax (P * (k + 1) / Q) (k + 1) (by omega) (by omega) hp1
  have hple : P * (k + 1) / Q ≤ 1000000000 := by
    have := Nat.div_le_self (P * (k + 1)) Q
    have := Nat.mul_le_mul hP (by omega : k + 1 ≤ 1000)
    omega
  have hu : v = k + 1 → P * (k + 1) / Q = u := fun e => by
    subst e
    have h3 : u ≤ P * (k + 1) / Q := (Nat.le_div_iff_mul_le hQ).mpr hl
    have h4 : P * (k + 1) / Q ≤ u := Nat.le_of_mul_le_mul_right hm (by omega)
    omega
  refine ⟨fun hc => ⟨hple, by omega, ?_⟩, fun hc => ⟨h0, h01, ?_⟩⟩
  · rcases h1 with ⟨c1, c2⟩ | ⟨c1, c2, c3⟩
    · rcases Nat.lt_or_ge (k + 1) v with h5 | h5
      · left
        refine ⟨h5, Or.inr ?_⟩
        rcases Nat.lt_or_ge (P * (k + 1) / Q * v) (u * (k + 1)) with h6 | h6
        · exact h6
        · have := cop_le g1 (by omega : P * (k + 1) / Q * v = u * (k + 1)) (by omega); omega
      · right
        exact ⟨h5, hu (by omega), by omega⟩
    · subst c2 c3
      rcases hc with hc | hc
      · omega
      · omega
  · rcases h1 with ⟨c1, c2⟩ | ⟨c1, c2, c3⟩
    · rcases Nat.lt_or_ge (k + 1) v with h5 | h5
      · left; exact ⟨h5, c2⟩
      · exfalso
        have e : v = k + 1 := by omega
        apply hc
        rcases c2 with c2 | c2
        · exact Or.inl c2
        · right; rw [hu e, ← e]; exact c2
    · right; exact ⟨by omega, c2, c3⟩
theorem nUp_step {P Q n u v z w k c d r : Nat} (hN : NOk P Q n u v z w) (hQ : 0 < Q) (hP : P ≤ 100000) (hn : n ≤ 1000) (hk : k < n) (hr1 : P * (k + 1) ≤ r * Q) (hr2 : r * Q < P * (k + 1) + Q) (h : nUp z w k c d) : ((d = 0 ∨ r * d < c * (k + 1)) → nUp z w (k + 1) r (k + 1)) ∧ (¬ (d = 0 ∨ r * d < c * (k + 1)) → nUp z w (k + 1) c d) := by
  obtain ⟨h0, h01, h1⟩ := h
  obtain ⟨-, -, hw, hw2, -, hu, -, g2, -, hmin⟩ := hN
  have hm := hmin r (k + 1) (by omega) (by omega) hr1
  have hple : r ≤ 1000000000 := by
    have h3 : r * Q < (P * (k + 1) + 1) * Q := by
      rw [Nat.add_mul, Nat.one_mul]
      have := Nat.le_mul_of_pos_right (P * (k + 1)) hQ
      omega
    have h4 := Nat.lt_of_mul_lt_mul_right h3
    have := Nat.mul_le_mul hP (by omega : k + 1 ≤ 1000)
    omega
  have hz : w = k + 1 → r = z := fun e => by
    subst e
    have h3 : z ≤ r := Nat.le_of_mul_le_mul_right hm (by omega)
    have h4 : r * Q < (z + 1) * Q := by rw [Nat.add_mul, Nat.one_mul]; omega
    have := Nat.lt_of_mul_lt_mul_right h4
    omega
  refine ⟨fun hc => ⟨hple, by omega, ?_⟩, fun hc => ⟨h0, h01, ?_⟩⟩
  · rcases h1 with ⟨c1, c2⟩ | ⟨c1, c2, c3⟩
    · rcases Nat.lt_or_ge (k + 1) w with h5 | h5
      · left
        refine ⟨h5, Or.inr ?_⟩
        rcases Nat.lt_or_ge (z * (k + 1)) (r * w) with h6 | h6
        · exact h6
        · have := cop_le g2 (by omega : r * w = z * (k + 1)) (by omega); omega
      · right
        exact ⟨h5, hz (by omega), by omega⟩
    · subst c2 c3
      rcases hc with hc | hc
      · omega
      · omega
  · rcases h1 with ⟨c1, c2⟩ | ⟨c1, c2, c3⟩
    · rcases Nat.lt_or_ge (k + 1) w with h5 | h5
      · left; exact ⟨h5, c2⟩
      · exfalso
        have e : w = k + 1 := by omega
        apply hc
        rcases c2 with c2 | c2
        · exact Or.inl c2
        · right; rw [hz e, ← e]; exact c2
    · right; exact ⟨by omega, c2, c3⟩

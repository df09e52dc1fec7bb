/-! rows of fractions in order -/
def Far (n i a b c d : Nat) : Prop := c * b = a * d + 1 ∧ 0 < b ∧ b ≤ n ∧ 0 < d ∧ d ≤ n ∧ n < b + d ∧ a ≤ b ∧ cBel n a b = i
theorem Far.cop {n i a b c d : Nat} (h : Far n i a b c d) : Nat.gcd a b = 1 := by
  have h1 : (b : Int) * c - a * d = 1 := by
    have : ((c * b : Nat) : Int) = ((a * d + 1 : Nat) : Int) := by rw [h.1]
    push_cast at this
    rw [Int.mul_comm (b : Int)]
    omega
  rw [Nat.gcd_comm]
  exact gcd1_of h1
/-- one place of a double sum -/
theorem sm_one {n k : Nat} (hk : k < n) : sm (fun i => if i = k then 1 else 0) n = 1 := by
  induction n with
  | zero => omega
  | succ n ih =>
    show sm (fun i => if i = k then 1 else 0) n + (if n = k then 1 else 0) = 1
    by_cases h : n = k
    · rw [if_pos h, sm_congr (g := fun _ => 0) n (fun i hi => if_neg (by omega)), sm_zero]
    · rw [if_neg h, ih (by omega)]
theorem sm_pair {n a b : Nat} (ha : 0 < a) (hab : a ≤ b) (hb : b ≤ n) : sm (fun y => sm (fun x => if x + 1 = a ∧ y + 1 = b then 1 else 0) (y + 1)) n = 1 := by
  have e : ∀ y, y < n → sm (fun x => if x + 1 = a ∧ y + 1 = b then 1 else 0) (y + 1) = if y = b - 1 then 1 else 0 := fun y _ => by
    by_cases h : y = b - 1
    · rw [if_pos h, sm_congr (g := fun x => if x = a - 1 then 1 else 0) (y + 1) (fun x _ => by
        by_cases hx : x = a - 1
        · rw [if_pos hx, if_pos ⟨by omega, by omega⟩]
        · rw [if_neg hx, if_neg (fun hh => hx (by omega))])]
      exact sm_one (by omega)
    · rw [if_neg h, sm_congr (g := fun _ => 0) (y + 1) (fun x _ => if_neg (fun hh => h (by omega))), sm_zero]
  rw [sm_congr n e]
  exact sm_one (by omega)
theorem cop_same {x y a b : Nat} (h1 : Nat.gcd x y = 1) (h2 : Nat.gcd a b = 1) (e : x * b = a * y) (hy : 0 < y) (hb : 0 < b) : x = a ∧ y = b := by
  have h3 : b ≤ y := cop_le h2 e hy
  have h4 : y ≤ b := cop_le h1 e.symm hb
  have h5 : y = b := by omega
  subst h5
  exact ⟨Nat.eq_of_mul_eq_mul_right hy e, rfl⟩
/-- between neighbours stands nothing with a small bottom -/
theorem adj_none {n a b c d x y : Nat} (h : c * b = a * d + 1) (hs : n < b + d) (hb : 0 < b) (hy0 : 0 < y) (hy : y ≤ n) : (x * d < c * y) ↔ (x * b ≤ a * y) := by
  constructor
  · intro h1
    rcases Nat.lt_or_ge (a * y) (x * b) with h2 | h2
    · exfalso
      have hd : (c : Int) * b - a * d = 1 := by
        have : ((c * b : Nat) : Int) = ((a * d + 1 : Nat) : Int) := by rw [h]
        push_cast at this
        omega
      have e : (y : Int) = b * ((c : Int) * y - x * d) + d * ((x : Int) * b - a * y) := by
        have : (b : Int) * ((c : Int) * y - x * d) + d * ((x : Int) * b - a * y) = y * ((c : Int) * b - a * d) := by grind
        rw [this, hd]; omega
      have h1' : (x : Int) * d < c * y := by exact_mod_cast h1
      have h2' : (a : Int) * y < x * b := by exact_mod_cast h2
      have m1 : (b : Int) * 1 ≤ b * ((c : Int) * y - x * d) := Int.mul_le_mul_of_nonneg_left (by omega) (by omega)
      have m2 : (d : Int) * 1 ≤ d * ((x : Int) * b - a * y) := Int.mul_le_mul_of_nonneg_left (by omega) (by omega)
      omega
    · exact h2
  · intro h1
    have h2 : x * d * b < c * y * b := by
      have a1 : x * b * d ≤ a * y * d := Nat.mul_le_mul_right _ h1
      have e1 : x * d * b = x * b * d := by grind
      have e2 : c * y * b = c * b * y := by grind
      have e3 : (a * d + 1) * y = a * y * d + y := by grind
      rw [e1, e2, h, e3]
      omega
    exact Nat.lt_of_mul_lt_mul_right h2
theorem cI0_next {n a b c d : Nat} (h : c * b = a * d + 1) (hb : 0 < b) (hbn : b ≤ n) (hs : n < b + d) (hg : Nat.gcd a b = 1) (hab : a ≤ b) : cI0 n c d = cI0 n a b + (if a = 0 then 0 else 1) := by
  have e : ∀ y, y < n → sm (fun x => if (x + 1) * d < c * (y + 1) ∧ Nat.gcd (x + 1) (y + 1) = 1 then 1 else 0) (y + 1) = sm (fun x => if (x + 1) * b < a * (y + 1) ∧ Nat.gcd (x + 1) (y + 1) = 1 then 1 else 0) (y + 1) + sm (fun x => if x + 1 = a ∧ y + 1 = b then 1 else 0) (y + 1) := fun y hy => by
    rw [← sm_add]
    refine sm_congr (y + 1) (fun x _ => ?_)
    have hadj := adj_none (x := x + 1) (y := y + 1) h hs hb (by omega) (by omega)
    by_cases hgx : Nat.gcd (x + 1) (y + 1) = 1
    · by_cases h1 : (x + 1) * b < a * (y + 1)
      · have h2 := hadj.mpr (Nat.le_of_lt h1)
        have h3 : ¬ (x + 1 = a ∧ y + 1 = b) := fun hh => by
          rw [hh.1, hh.2] at h1; omega
        rw [if_pos ⟨h2, hgx⟩, if_pos ⟨h1, hgx⟩, if_neg h3]
      · have n1 : ¬ ((x + 1) * b < a * (y + 1) ∧ Nat.gcd (x + 1) (y + 1) = 1) := fun hh => h1 hh.1
        rw [if_neg n1]
        by_cases h2 : (x + 1) * b = a * (y + 1)
        · have h3 := hadj.mpr (by omega)
          rw [if_pos ⟨h3, hgx⟩, if_pos (cop_same hgx hg h2 (by omega) hb)]
        · have h3 : ¬ ((x + 1) * d < c * (y + 1) ∧ Nat.gcd (x + 1) (y + 1) = 1) := fun hh => by have := hadj.mp hh.1; omega
          have h4 : ¬ (x + 1 = a ∧ y + 1 = b) := fun hh => h2 (by rw [hh.1, hh.2])
          rw [if_neg h3, if_neg h4]
    · have h4 : ¬ (x + 1 = a ∧ y + 1 = b) := fun hh => hgx (by rw [hh.1, hh.2]; exact hg)
      have n1 : ¬ ((x + 1) * b < a * (y + 1) ∧ Nat.gcd (x + 1) (y + 1) = 1) := fun hh => hgx hh.2
      have n2 : ¬ ((x + 1) * d < c * (y + 1) ∧ Nat.gcd (x + 1) (y + 1) = 1) := fun hh => hgx hh.2
      rw [if_neg n1, if_neg n2, if_neg h4]
  unfold cI0
  rw [sm_congr n e, sm_add]
  congr 1
  by_cases h0 : a = 0
  · rw [if_pos h0, sm_congr (g := fun _ => 0) n (fun y _ => by rw [sm_congr (g := fun _ => 0) (y + 1) (fun x _ => if_neg (fun hh => by omega)), sm_zero]), sm_zero]
  · rw [if_neg h0]
    exact sm_pair (by omega) hab hbn
theorem cI0_zero (n b : Nat) : cI0 n 0 b = 0 := by
  unfold cI0
  rw [sm_congr (g := fun _ => 0) n (fun y _ => by rw [sm_congr (g := fun _ => 0) (y + 1) (fun x _ => if_neg (fun hh => by have := hh.1; omega)), sm_zero]), sm_zero]
theorem cBel_next {n a b c d : Nat} (h : c * b = a * d + 1) (hb : 0 < b) (hbn : b ≤ n) (hs : n < b + d) (hg : Nat.gcd a b = 1) (hab : a ≤ b) (hcd : c ≤ d) : cBel n c d = cBel n a b + 1 := by
  have hc0 : c ≠ 0 := fun hz => by rw [hz, Nat.zero_mul] at h; omega
  have h1 := cI0_next h hb hbn hs hg hab
  unfold cBel
  rw [if_neg hc0, if_pos hcd, h1]
  by_cases h0 : a = 0
  · subst h0
    rw [if_pos rfl, if_pos rfl, cI0_zero]
  · rw [if_neg h0, if_neg h0, if_pos hab]
theorem cBel_one (n : Nat) : cBel n 1 1 + 1 = cAll n := by
  unfold cBel cAll
  rw [if_neg (by omega), if_pos (by omega)]
theorem Far.step {n i a b c d : Nat} (h : Far n i a b c d) (hi : i + 1 < cAll n) : Far n (i + 1) c d ((n + b) / d * c - a) ((n + b) / d * d - b) ∧ a ≤ (n + b) / d * c ∧ b ≤ (n + b) / d * d := by
  have hcop := h.cop
  obtain ⟨h1, h2, h3, h4, h5, h6, h7, h8⟩ := h
  have hlt : a < b := by
    rcases Nat.lt_or_ge a b with h9 | h9
    · exact h9
    · have hab : a = b := by omega
      subst hab
      rw [Nat.gcd_self] at hcop
      subst hcop
      have := cBel_one n
      omega
  have hcd : c ≤ d := by
    have e1 : c * b ≤ d * b := by
      rw [h1]
      have : a * d + d ≤ b * d := by rw [← Nat.succ_mul]; exact Nat.mul_le_mul_right _ hlt
      rw [Nat.mul_comm d b]
      omega
    exact Nat.le_of_mul_le_mul_right e1 h2
  have hk1 : (n + b) / d * d ≤ n + b := Nat.div_mul_le_self _ _
  have hk2 : n + b < (n + b) / d * d + d := Nat.lt_div_mul_add h4
  have hc8 := cBel_next h1 h2 h3 h6 hcop h7 hcd
  generalize (n + b) / d = k at *
  have hbk : b ≤ k * d := by omega
  have hak : a < k * c := by
    have e1 : a * d < k * c * d := by
      have e2 : k * c * d = k * d * c := by grind
      have e3 : b * c ≤ k * d * c := Nat.mul_le_mul_right _ hbk
      rw [e2, Nat.mul_comm b c] at *
      omega
    exact Nat.lt_of_mul_lt_mul_right e1
  refine ⟨⟨?_, h4, h5, by omega, by omega, by omega, hcd, by omega⟩, by omega, hbk⟩
  obtain ⟨e, he⟩ : ∃ e, k * c = a + e := ⟨k * c - a, by omega⟩
  obtain ⟨f, hf⟩ : ∃ f, k * d = b + f := ⟨k * d - b, by omega⟩
  have e1 : k * c - a = e := by omega
  have e2 : k * d - b = f := by omega
  rw [e1, e2]
  have e3 : k * c * d = a * d + e * d := by rw [he, Nat.add_mul]
  have e4 : k * d * c = b * c + f * c := by rw [hf, Nat.add_mul]
  have e5 : k * c * d = k * d * c := by grind
  rw [Nat.mul_comm b c] at e4
  rw [Nat.mul_comm c f]
  omega
theorem Far.first {n : Nat} (hn : 1 ≤ n) : Far n 0 0 1 1 n := ⟨by omega, by omega, hn, hn, Nat.le_refl _, by omega, by omega, by unfold cBel; rw [if_pos rfl]⟩
/-- fewer below the lesser one -/
theorem cBel_lt {n a b a' b' : Nat} (hb : 0 < b) (hbn : b ≤ n) (hg : Nat.gcd a b = 1) (hab : a ≤ b) (hb' : 0 < b') (hab' : a' ≤ b') (h : a * b' < a' * b) : cBel n a b < cBel n a' b' := by
  have ha' : a' ≠ 0 := fun hz => by rw [hz, Nat.zero_mul] at h; omega
  unfold cBel
  rw [if_neg ha', if_pos hab']
  by_cases h0 : a = 0
  · rw [if_pos h0]; omega
  · rw [if_neg h0, if_pos hab]
    have hle : cI0 n a b + sm (fun y => sm (fun x => if x + 1 = a ∧ y + 1 = b then 1 else 0) (y + 1)) n ≤ cI0 n a' b' := by
      unfold cI0
      rw [← sm_add]
      have mono : ∀ (f g : Nat → Nat) (m : Nat), (∀ i, i < m → f i ≤ g i) → sm f m ≤ sm g m := fun f g m hfg => by
        induction m with
        | zero => exact Nat.le_refl _
        | succ m ih =>
          show sm f m + f m ≤ sm g m + g m
          have := ih (fun i hi => hfg i (by omega))
          have := hfg m (by omega)
          omega
      refine mono _ _ n (fun y _ => ?_)
      rw [← sm_add]
      refine mono _ _ (y + 1) (fun x _ => ?_)
      by_cases hgx : Nat.gcd (x + 1) (y + 1) = 1
      · have hkey : (x + 1) * b ≤ a * (y + 1) → (x + 1) * b' < a' * (y + 1) := fun h1 => by
          have e1 : (x + 1) * b' * b < a' * (y + 1) * b := by
            have a1 : (x + 1) * b * b' ≤ a * (y + 1) * b' := Nat.mul_le_mul_right _ h1
            have a2 : a * b' * (y + 1) < a' * b * (y + 1) := Nat.mul_lt_mul_of_pos_right h (by omega)
            have e1 : (x + 1) * b' * b = (x + 1) * b * b' := by grind
            have e2 : a' * (y + 1) * b = a' * b * (y + 1) := by grind
            have e3 : a * (y + 1) * b' = a * b' * (y + 1) := by grind
            omega
          exact Nat.lt_of_mul_lt_mul_right e1
        by_cases h1 : (x + 1) * b < a * (y + 1)
        · have h3 : ¬ (x + 1 = a ∧ y + 1 = b) := fun hh => by rw [hh.1, hh.2] at h1; omega
          rw [if_pos ⟨h1, hgx⟩, if_neg h3, if_pos ⟨hkey (by omega), hgx⟩]
          omega
        · have n1 : ¬ ((x + 1) * b < a * (y + 1) ∧ Nat.gcd (x + 1) (y + 1) = 1) := fun hh => h1 hh.1
          rw [if_neg n1]
          by_cases h3 : x + 1 = a ∧ y + 1 = b
          · rw [if_pos h3, if_pos ⟨hkey (by rw [h3.1, h3.2]; omega), hgx⟩]
            omega
          · rw [if_neg h3]; omega
      · have h4 : ¬ (x + 1 = a ∧ y + 1 = b) := fun hh => hgx (by rw [hh.1, hh.2]; exact hg)
        have n1 : ¬ ((x + 1) * b < a * (y + 1) ∧ Nat.gcd (x + 1) (y + 1) = 1) := fun hh => hgx hh.2
        rw [if_neg n1, if_neg h4]
        omega
    rw [sm_pair (by omega : 0 < a) hab hbn] at hle
    omega
theorem Far.uniq {n i a b c d a' b' c' d' : Nat} (h : Far n i a b c d) (h' : Far n i a' b' c' d') : a = a' ∧ b = b' ∧ c = c' ∧ d = d' := by
  have g := h.cop
  have g' := h'.cop
  obtain ⟨h1, h2, h3, h4, h5, h6, h7, h8⟩ := h
  obtain ⟨k1, k2, k3, k4, k5, k6, k7, k8⟩ := h'
  have e : a * b' = a' * b := by
    rcases Nat.lt_or_ge (a * b') (a' * b) with q | q
    · have := cBel_lt h2 h3 g h7 k2 k7 q; omega
    · rcases Nat.lt_or_ge (a' * b) (a * b') with q2 | q2
      · have := cBel_lt k2 k3 g' k7 h2 h7 q2; omega
      · omega
  obtain ⟨rfl, rfl⟩ := cop_same g g' e h2 k2
  have hd : d = d' := by
    have key : ∀ x y u v : Nat, u * b = a * x + 1 → v * b = a * y + 1 → x < y → y < x + b → False := fun x y u v e1 e2 hxy hyb => by
      have e3 : a * (y - x) = (v - u) * b := by
        have : a * y = a * x + a * (y - x) := by rw [← Nat.mul_add]; congr 1; omega
        rw [Nat.sub_mul]
        omega
      have hdv : b ∣ a * (y - x) := ⟨v - u, by rw [e3, Nat.mul_comm]⟩
      have h9 : b ∣ (y - x) := Nat.Coprime.dvd_of_dvd_mul_left (by rw [Nat.gcd_comm] at g; exact g) hdv
      have := Nat.le_of_dvd (by omega) h9
      omega
    rcases Nat.lt_or_ge d d' with q | q
    · exact absurd (key d d' c c' h1 k1 q (by omega)) id
    · rcases Nat.lt_or_ge d' d with q2 | q2
      · exact absurd (key d' d c' c k1 h1 q2 (by omega)) id
      · omega
  subst hd
  exact ⟨rfl, rfl, Nat.eq_of_mul_eq_mul_right h2 (by omega), rfl⟩

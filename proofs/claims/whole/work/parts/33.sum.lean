/-! sums of floors -/
def sm (f : Nat → Nat) : Nat → Nat
  | 0 => 0
  | n + 1 => sm f n + f n
theorem sm_congr {f g : Nat → Nat} : ∀ n, (∀ i, i < n → f i = g i) → sm f n = sm g n
  | 0, _ => rfl
  | n + 1, h => by
    show sm f n + f n = sm g n + g n
    rw [sm_congr n (fun i hi => h i (by omega)), h n (by omega)]
theorem sm_add (f g : Nat → Nat) : ∀ n, sm (fun i => f i + g i) n = sm f n + sm g n
  | 0 => rfl
  | n + 1 => by
    show sm (fun i => f i + g i) n + (f n + g n) = (sm f n + f n) + (sm g n + g n)
    rw [sm_add f g n]; omega
theorem sm_mul (c : Nat) (f : Nat → Nat) : ∀ n, sm (fun i => c * f i) n = c * sm f n
  | 0 => rfl
  | n + 1 => by
    show sm (fun i => c * f i) n + c * f n = c * (sm f n + f n)
    rw [sm_mul c f n, Nat.mul_add]
theorem sm_const (c : Nat) : ∀ n, sm (fun _ => c) n = n * c
  | 0 => by simp [sm]
  | n + 1 => by
    show sm (fun _ => c) n + c = (n + 1) * c
    rw [sm_const c n, Nat.add_mul, Nat.one_mul]
theorem sm_zero (n : Nat) : sm (fun _ => 0) n = 0 := by rw [sm_const]; simp
theorem sm_id : ∀ n, 2 * sm (fun i => i) n = n * (n - 1)
  | 0 => rfl
  | n + 1 => by
    show 2 * (sm (fun i => i) n + n) = (n + 1) * (n + 1 - 1)
    rw [Nat.mul_add, sm_id n, Nat.add_sub_cancel]
    cases n with
    | zero => rfl
    | succ n => simp only [Nat.add_sub_cancel]; grind
theorem sm_swap (g : Nat → Nat → Nat) (y : Nat) : ∀ n, sm (fun i => sm (fun j => g i j) y) n = sm (fun j => sm (fun i => g i j) n) y
  | 0 => by
    show 0 = sm (fun j => 0) y
    rw [sm_zero]
  | n + 1 => by
    show sm (fun i => sm (fun j => g i j) y) n + sm (fun j => g n j) y = sm (fun j => sm (fun i => g i j) n + g n j) y
    rw [sm_swap g y n, sm_add]
theorem sm_front (f : Nat → Nat) : ∀ n, sm f (n + 1) = f 0 + sm (fun i => f (i + 1)) n
  | 0 => by show 0 + f 0 = f 0 + 0; omega
  | n + 1 => by
    show sm f (n + 1) + f (n + 1) = f 0 + (sm (fun i => f (i + 1)) n + f (n + 1))
    rw [sm_front f n]; omega
theorem sm_rev (f : Nat → Nat) : ∀ n, sm (fun i => f (n - 1 - i)) n = sm f n
  | 0 => rfl
  | n + 1 => by
    rw [sm_front (fun i => f (n + 1 - 1 - i)) n]
    show f (n + 1 - 1 - 0) + sm (fun i => f (n + 1 - 1 - (i + 1))) n = sm f n + f n
    rw [sm_congr (g := fun i => f (n - 1 - i)) n (fun i hi => by congr 1; omega), sm_rev f n]
    simp only [Nat.add_sub_cancel, Nat.sub_zero]
    omega
/-- multiples up to z among the first y -/
theorem cnt_div {m : Nat} (hm : 0 < m) (z : Nat) : ∀ y, sm (fun j => if m * (j + 1) ≤ z then 1 else 0) y = min (z / m) y
  | 0 => by simp [sm]
  | y + 1 => by
    show sm (fun j => if m * (j + 1) ≤ z then 1 else 0) y + (if m * (y + 1) ≤ z then 1 else 0) = min (z / m) (y + 1)
    rw [cnt_div hm z y]
    have h : m * (y + 1) ≤ z ↔ y + 1 ≤ z / m := by rw [Nat.le_div_iff_mul_le hm, Nat.mul_comm]
    by_cases hc : m * (y + 1) ≤ z
    · rw [if_pos hc]; have := h.mp hc; omega
    · rw [if_neg hc]; have : ¬ y + 1 ≤ z / m := fun hh => hc (h.mpr hh); omega
theorem flip {n a b m : Nat} (ha : 0 < a) (hb : b < m) : sm (fun i => (a * i + b) / m) n = sm (fun j => (m * j + (a * n + b) % m) / a) ((a * n + b) / m) := by
  have hm : 0 < m := by omega
  have hdm := Nat.div_add_mod (a * n + b) m
  generalize hy : (a * n + b) / m = y at *
  generalize hr : (a * n + b) % m = r at *
  have e1 : sm (fun i => (a * i + b) / m) n = sm (fun i => sm (fun j => if m * (j + 1) ≤ a * i + b then 1 else 0) y) n := by
    refine sm_congr n (fun i hi => ?_)
    rw [cnt_div hm]
    have : (a * i + b) / m ≤ y := by
      rw [← hy]
      exact Nat.div_le_div_right (Nat.add_le_add_right (Nat.mul_le_mul_left _ (by omega)) _)
    omega
  rw [e1, sm_swap]
  have e2 : ∀ j, j < y → sm (fun i => if m * (j + 1) ≤ a * i + b then 1 else 0) n = (m * (y - 1 - j) + r) / a := by
    intro j hj
    rw [← sm_rev]
    obtain ⟨t, ht⟩ : ∃ t, y = j + 1 + t := ⟨y - 1 - j, by omega⟩
    have ht2 : y - 1 - j = t := by omega
    rw [ht2]
    have hmy : m * y = m * (j + 1) + m * t := by rw [ht, Nat.mul_add]
    have e3 : sm (fun i => if m * (j + 1) ≤ a * (n - 1 - i) + b then 1 else 0) n = sm (fun i => if a * (i + 1) ≤ m * t + r then 1 else 0) n := by
      refine sm_congr n (fun i hi => ?_)
      have h4 : a * n = a * (n - 1 - i) + a * (i + 1) := by rw [← Nat.mul_add]; congr 1; omega
      have : (m * (j + 1) ≤ a * (n - 1 - i) + b) ↔ (a * (i + 1) ≤ m * t + r) := by omega
      simp only [this]
    rw [e3, cnt_div ha]
    have h5 : (m * t + r) / a ≤ n := by
      have h6 : m * t + r < a * n := by
        have : m ≤ m * (j + 1) := Nat.le_mul_of_pos_right _ (by omega)
        omega
      exact Nat.le_of_lt (Nat.div_lt_of_lt_mul h6)
    omega
  rw [sm_congr y e2, sm_rev (fun j => (m * j + r) / a) y]
def fS (n a b m : Nat) : Nat := sm (fun i => (a * i + b) / m) n
theorem fS_red {n a b m : Nat} (hm : 0 < m) : fS n a b m = sm (fun i => i) n * (a / m) + n * (b / m) + fS n (a % m) (b % m) m := by
  unfold fS
  have e : ∀ i, i < n → (a * i + b) / m = (a / m) * i + ((b / m) + (a % m * i + b % m) / m) := fun i _ => by
    have h1 := Nat.div_add_mod a m
    have h2 := Nat.div_add_mod b m
    have h3 : a * i + b = (a % m * i + b % m) + m * ((a / m) * i + b / m) := by
      generalize a / m = x at *
      generalize a % m = y at *
      generalize b / m = u at *
      generalize b % m = v at *
      subst h1 h2
      grind
    rw [h3, Nat.add_mul_div_left _ _ hm]
    omega
  rw [sm_congr n e, sm_add, sm_mul, sm_add, sm_const, Nat.mul_comm (a / m)]
  omega
theorem fS_flip {n a b m : Nat} (hb : b < m) (hy : 0 < (a * n + b) / m) : 0 < a ∧ fS n a b m = fS ((a * n + b) / m) m ((a * n + b) % m) a := by
  have ha : 0 < a := by
    rcases Nat.eq_zero_or_pos a with h | h
    · rw [h, Nat.zero_mul, Nat.zero_add, Nat.div_eq_of_lt hb] at hy; omega
    · exact h
  exact ⟨ha, flip ha hb⟩
theorem fS_zero {n a b m : Nat} (hm : 0 < m) (hy : (a * n + b) / m = 0) : fS n a b m = 0 := by
  unfold fS
  have hlt : a * n + b < m := by
    rcases Nat.lt_or_ge (a * n + b) m with h | h
    · exact h
    · have := Nat.div_pos h hm; omega
  rw [sm_congr (g := fun _ => 0) n (fun i hi => by
    have : a * i ≤ a * n := Nat.mul_le_mul_left _ (by omega)
    exact Nat.div_eq_of_lt (by omega)), sm_zero]

/-! Moebius' numbers, counting fractions in least terms -/
def mS : Nat → Nat → Int
  | 0, i => if i = 1 then 1 else 0
  | d + 1, i => if d + 1 < i ∧ (d + 1) ∣ i then mS d i - mS d (d + 1) else mS d i
def mu (d : Nat) : Int := mS (d - 1) d
def si (f : Nat → Int) : Nat → Int
  | 0 => 0
  | n + 1 => si f n + f n
theorem si_congr {f g : Nat → Int} : ∀ n, (∀ i, i < n → f i = g i) → si f n = si g n
  | 0, _ => rfl
  | n + 1, h => by
    show si f n + f n = si g n + g n
    rw [si_congr n (fun i hi => h i (by omega)), h n (by omega)]
theorem si_add (f g : Nat → Int) : ∀ n, si (fun i => f i + g i) n = si f n + si g n
  | 0 => rfl
  | n + 1 => by
    show si (fun i => f i + g i) n + (f n + g n) = (si f n + f n) + (si g n + g n)
    rw [si_add f g n]; omega
theorem si_mul (c : Int) (f : Nat → Int) : ∀ n, si (fun i => c * f i) n = c * si f n
  | 0 => by show 0 = c * 0; omega
  | n + 1 => by
    show si (fun i => c * f i) n + c * f n = c * (si f n + f n)
    rw [si_mul c f n, Int.mul_add]
theorem si_zero : ∀ n, si (fun _ => 0) n = 0
  | 0 => rfl
  | n + 1 => by show si (fun _ => 0) n + 0 = 0; rw [si_zero n]; rfl
theorem si_swap (g : Nat → Nat → Int) (y : Nat) : ∀ n, si (fun i => si (fun j => g i j) y) n = si (fun j => si (fun i => g i j) n) y
  | 0 => by
    show 0 = si (fun j => 0) y
    rw [si_zero]
  | n + 1 => by
    show si (fun i => si (fun j => g i j) y) n + si (fun j => g n j) y = si (fun j => si (fun i => g i j) n + g n j) y
    rw [si_swap g y n, si_add]
theorem si_sm (f : Nat → Nat) : ∀ n, ((sm f n : Nat) : Int) = si (fun i => (f i : Int)) n
  | 0 => rfl
  | n + 1 => by
    show ((sm f n + f n : Nat) : Int) = si (fun i => (f i : Int)) n + f n
    rw [← si_sm f n]; push_cast; rfl
theorem si_tail {f : Nat → Int} {n : Nat} : ∀ m, n ≤ m → (∀ i, n ≤ i → i < m → f i = 0) → si f m = si f n
  | 0, h, _ => by have : n = 0 := by omega
                  subst this; rfl
  | m + 1, h, hz => by
    rcases Nat.lt_or_ge m n with h1 | h1
    · have : n = m + 1 := by omega
      subst this; rfl
    · show si f m + f m = si f n
      rw [hz m h1 (by omega), si_tail m h1 (fun i hi hi2 => hz i hi (by omega))]; omega
theorem mS_eq (i : Nat) : ∀ k, mS k i = (if i = 1 then 1 else 0) - si (fun d => if d + 1 < i ∧ (d + 1) ∣ i then mu (d + 1) else 0) k
  | 0 => by show (if i = 1 then (1 : Int) else 0) = _ - 0; omega
  | k + 1 => by
    have ih := mS_eq i k
    show (if k + 1 < i ∧ (k + 1) ∣ i then mS k i - mS k (k + 1) else mS k i) = (if i = 1 then 1 else 0) - (si (fun d => if d + 1 < i ∧ (d + 1) ∣ i then mu (d + 1) else 0) k + (if k + 1 < i ∧ (k + 1) ∣ i then mu (k + 1) else 0))
    have hm : mu (k + 1) = mS k (k + 1) := rfl
    by_cases hc : k + 1 < i ∧ (k + 1) ∣ i
    · rw [if_pos hc, if_pos hc, ih, hm]; omega
    · rw [if_neg hc, if_neg hc, ih]; omega
/-- the array's last word on i -/
theorem mS_mu {i k : Nat} (hi : 1 ≤ i) (hk : i ≤ k + 1) : mS k i = mu i := by
  unfold mu
  rw [mS_eq i k, mS_eq i (i - 1), si_tail (n := i - 1) k (by omega) (fun d h1 _ => if_neg (by omega))]
theorem mu_sum {g n : Nat} (hg : 1 ≤ g) (hn : g ≤ n) : si (fun d => if (d + 1) ∣ g then mu (d + 1) else 0) n = if g = 1 then 1 else 0 := by
  rw [si_tail (n := g) n hn (fun d h1 _ => if_neg (fun hd => by have := Nat.le_of_dvd (by omega) hd; omega))]
  obtain ⟨t, rfl⟩ : ∃ t, g = t + 1 := ⟨g - 1, by omega⟩
  show si (fun d => if (d + 1) ∣ (t + 1) then mu (d + 1) else 0) t + (if (t + 1) ∣ (t + 1) then mu (t + 1) else 0) = _
  rw [if_pos (Nat.dvd_refl _)]
  have h1 : mu (t + 1) = mS t (t + 1) := rfl
  rw [h1, mS_eq (t + 1) t, si_congr (g := fun d => if d + 1 < t + 1 ∧ (d + 1) ∣ (t + 1) then mu (d + 1) else 0) t (fun d hd => by
    by_cases hc : (d + 1) ∣ (t + 1)
    · rw [if_pos hc, if_pos ⟨by omega, hc⟩]
    · rw [if_neg hc, if_neg (fun hh => hc hh.2)])]
  omega
/-- over the multiples of D -/
theorem sm_mult {D : Nat} (hD : 0 < D) (f : Nat → Nat) : ∀ n, sm (fun b => if D ∣ (b + 1) then f (b + 1) else 0) n = sm (fun t => f (D * (t + 1))) (n / D)
  | 0 => by rw [Nat.zero_div]; rfl
  | n + 1 => by
    show sm (fun b => if D ∣ (b + 1) then f (b + 1) else 0) n + (if D ∣ (n + 1) then f (n + 1) else 0) = _
    rw [sm_mult hD f n, Nat.succ_div]
    by_cases hd : D ∣ (n + 1)
    · rw [if_pos hd, if_pos hd]
      show _ = sm (fun t => f (D * (t + 1))) (n / D) + f (D * (n / D + 1))
      have e : D * (n / D + 1) = n + 1 := by
        have h1 : (n + 1) / D = n / D + 1 := by rw [Nat.succ_div, if_pos hd]
        rw [← h1]
        exact Nat.mul_div_cancel' hd
      rw [e]
    · rw [if_neg hd, if_neg hd]; rfl
/-- how many fractions in least terms lie above 0 and below p / q, bottoms up to n -/
def cI0 (n p q : Nat) : Nat := sm (fun b => sm (fun a => if (a + 1) * q < p * (b + 1) ∧ Nat.gcd (a + 1) (b + 1) = 1 then 1 else 0) (b + 1)) n
theorem inner_mult {D t p q : Nat} (hD : 0 < D) (hp : 0 < p) (hpq : p ≤ q) : sm (fun a => if D ∣ (a + 1) then (if (a + 1) * q < p * (D * (t + 1)) then 1 else 0) else 0) (D * (t + 1)) = (p * t + (p - 1)) / q := by
  rw [sm_mult hD (fun x => if x * q < p * (D * (t + 1)) then 1 else 0), Nat.mul_div_cancel_left _ hD]
  have e : ∀ s, s < t + 1 → (if D * (s + 1) * q < p * (D * (t + 1)) then 1 else 0) = (if q * (s + 1) ≤ p * t + (p - 1) then 1 else 0) := fun s _ => by
    have e1 : D * (s + 1) * q = D * (q * (s + 1)) := by grind
    have e2 : p * (D * (t + 1)) = D * (p * (t + 1)) := by grind
    have e3 : p * (t + 1) = p * t + p := by rw [Nat.mul_add, Nat.mul_one]
    have : (D * (s + 1) * q < p * (D * (t + 1))) ↔ (q * (s + 1) ≤ p * t + (p - 1)) := by
      rw [e1, e2, Nat.mul_lt_mul_left hD, e3]
      omega
    simp only [this]
  rw [sm_congr (t + 1) e, cnt_div (by omega)]
  have hlt : (p * t + (p - 1)) / q < t + 1 := Nat.div_lt_of_lt_mul (by
    have : p * (t + 1) ≤ q * (t + 1) := Nat.mul_le_mul_right _ hpq
    rw [Nat.mul_add, Nat.mul_one] at this
    omega)
  omega
theorem cI0_eq {n p q : Nat} (hp : 0 < p) (hpq : p ≤ q) : (cI0 n p q : Int) = si (fun d => mu (d + 1) * (fS (n / (d + 1)) p (p - 1) q : Int)) n := by
  have step1 : (cI0 n p q : Int) = si (fun b => si (fun a => si (fun d => mu (d + 1) * (if (d + 1) ∣ (b + 1) then (if (d + 1) ∣ (a + 1) then (if (a + 1) * q < p * (b + 1) then 1 else 0) else 0) else 0)) n) (b + 1)) n := by
    unfold cI0
    rw [si_sm]
    refine si_congr n (fun b hb => ?_)
    rw [si_sm]
    refine si_congr (b + 1) (fun a ha => ?_)
    by_cases hlt : (a + 1) * q < p * (b + 1)
    · have hg1 : 1 ≤ Nat.gcd (a + 1) (b + 1) := Nat.gcd_pos_of_pos_left _ (by omega)
      have hg2 : Nat.gcd (a + 1) (b + 1) ≤ n := Nat.le_trans (Nat.gcd_le_right _ (by omega)) (by omega)
      have hm := mu_sum hg1 hg2
      rw [si_congr (g := fun d => if (d + 1) ∣ Nat.gcd (a + 1) (b + 1) then mu (d + 1) else 0) n (fun d _ => ?_), hm]
      · by_cases hg : Nat.gcd (a + 1) (b + 1) = 1
        · rw [if_pos ⟨hlt, hg⟩, if_pos hg]; rfl
        · rw [if_neg (fun hh => hg hh.2), if_neg hg]; rfl
      · by_cases h1 : (d + 1) ∣ (b + 1)
        · by_cases h2 : (d + 1) ∣ (a + 1)
          · rw [if_pos h1, if_pos h2, if_pos hlt, if_pos (Nat.dvd_gcd h2 h1)]; omega
          · rw [if_pos h1, if_neg h2, if_neg (fun hh => h2 (Nat.dvd_trans hh (Nat.gcd_dvd_left _ _)))]; omega
        · rw [if_neg h1, if_neg (fun hh => h1 (Nat.dvd_trans hh (Nat.gcd_dvd_right _ _)))]; omega
    · rw [if_neg (fun hh => hlt hh.1), si_congr (g := fun _ => 0) n (fun d _ => by
        rw [if_neg hlt]
        split <;> (try split) <;> omega), si_zero]
      rfl
  rw [step1]
  have step2 : ∀ b, b < n → si (fun a => si (fun d => mu (d + 1) * (if (d + 1) ∣ (b + 1) then (if (d + 1) ∣ (a + 1) then (if (a + 1) * q < p * (b + 1) then (1 : Int) else 0) else 0) else 0)) n) (b + 1) = si (fun d => mu (d + 1) * ((if (d + 1) ∣ (b + 1) then sm (fun a => if (d + 1) ∣ (a + 1) then (if (a + 1) * q < p * (b + 1) then 1 else 0) else 0) (b + 1) else 0 : Nat) : Int)) n := fun b _ => by
    rw [si_swap]
    refine si_congr n (fun d _ => ?_)
    rw [si_mul]
    congr 1
    by_cases h1 : (d + 1) ∣ (b + 1)
    · rw [if_pos h1, si_sm]
      refine si_congr (b + 1) (fun a _ => ?_)
      rw [if_pos h1]
      split
      · split <;> rfl
      · rfl
    · rw [if_neg h1, si_congr (g := fun _ => 0) (b + 1) (fun a _ => by rw [if_neg h1]), si_zero]; rfl
  rw [si_congr n step2, si_swap]
  refine si_congr n (fun d _ => ?_)
  rw [si_mul, ← si_sm]
  congr 2
  rw [sm_mult (by omega : 0 < d + 1) (fun x => sm (fun a => if (d + 1) ∣ (a + 1) then (if (a + 1) * q < p * x then 1 else 0) else 0) x)]
  unfold fS
  exact sm_congr _ (fun t _ => inner_mult (by omega) hp hpq)
def mM (k : Nat) : Int := si (fun d => mu (d + 1)) k
/-- over a stretch of divisors that leave one quotient -/
theorem stretch (n : Nat) (F : Nat → Int) (w : Nat) {a : Nat} : ∀ b, a ≤ b → (∀ d, a ≤ d → d < b → n / (d + 1) = w) → si (fun d => mu (d + 1) * F (n / (d + 1))) b = si (fun d => mu (d + 1) * F (n / (d + 1))) a + (mM b - mM a) * F w
  | 0, h, _ => by have : a = 0 := by omega
                  subst this; rw [Int.sub_self, Int.zero_mul]; omega
  | b + 1, h, hw => by
    rcases Nat.lt_or_ge b a with h1 | h1
    · have : a = b + 1 := by omega
      subst this; rw [Int.sub_self, Int.zero_mul]; omega
    · have ih := stretch n F w b h1 (fun d h2 h3 => hw d h2 (by omega))
      show si (fun d => mu (d + 1) * F (n / (d + 1))) b + mu (b + 1) * F (n / (b + 1)) = _
      have e : mM (b + 1) = mM b + mu (b + 1) := rfl
      rw [ih, hw b h1 (by omega), e]
      grind

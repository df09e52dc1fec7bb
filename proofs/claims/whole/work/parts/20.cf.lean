/-! continued fractions as lists -/
def cfF : Nat → Nat → Nat → List Nat
  | 0, _, _ => []
  | f + 1, p, q => if q = 0 then [] else p / q :: cfF f q (p % q)
def cf (p q : Nat) : List Nat := cfF (q + 1) p q
theorem cfF_eq : ∀ (f g p q : Nat), q < f → q < g → cfF f p q = cfF g p q := by
  intro f
  induction f with
  | zero => intro g p q h; omega
  | succ f ih =>
    intro g p q hf hg
    cases g with
    | zero => omega
    | succ g =>
      unfold cfF
      by_cases hq : q = 0
      · rw [if_pos hq, if_pos hq]
      · rw [if_neg hq, if_neg hq]
        have := Nat.mod_lt p (Nat.pos_of_ne_zero hq)
        rw [ih g q (p % q) (by omega) (by omega)]
theorem cf_zero (p : Nat) : cf p 0 = [] := rfl
theorem cf_pos (p : Nat) {q : Nat} (h : 0 < q) : cf p q = p / q :: cf q (p % q) := by
  have hm := Nat.mod_lt p h
  unfold cf
  rw [cfF, if_neg (by omega), cfF_eq q (p % q + 1) q (p % q) hm (by omega)]
/-- induction along Euclid's steps -/
theorem cf_ind {P : Nat → Nat → Prop} (h0 : ∀ p, P p 0) (hs : ∀ p q, 0 < q → P q (p % q) → P p q) : ∀ p q, P p q := by
  intro p q
  induction q using Nat.strongRecOn generalizing p with
  | ind q ih =>
    by_cases hq : q = 0
    · subst hq; exact h0 p
    · have := Nat.mod_lt p (Nat.pos_of_ne_zero hq)
      exact hs p q (Nat.pos_of_ne_zero hq) (ih _ this q)
def cA : List Nat → Nat × Nat
  | [] => (1, 0)
  | a :: l => (a * (cA l).1 + (cA l).2, (cA l).1)
def cB : List Nat → Nat × Nat
  | [] => (0, 1)
  | a :: l => (a * (cB l).1 + (cB l).2, (cB l).1)
def cH (l : List Nat) : Nat := (cA l).1
def cK (l : List Nat) : Nat := (cA l).2
def cP (l : List Nat) : Nat := (cB l).1
def cQ (l : List Nat) : Nat := (cB l).2
theorem cH_nil : cH [] = 1 := rfl
theorem cK_nil : cK [] = 0 := rfl
theorem cP_nil : cP [] = 0 := rfl
theorem cQ_nil : cQ [] = 1 := rfl
theorem cH_cons (a : Nat) (l : List Nat) : cH (a :: l) = a * cH l + cK l := rfl
theorem cK_cons (a : Nat) (l : List Nat) : cK (a :: l) = cH l := rfl
theorem cP_cons (a : Nat) (l : List Nat) : cP (a :: l) = a * cP l + cQ l := rfl
theorem cQ_cons (a : Nat) (l : List Nat) : cQ (a :: l) = cP l := rfl
theorem c_snoc (a : Nat) : ∀ l : List Nat, cH (l ++ [a]) = a * cH l + cP l ∧ cK (l ++ [a]) = a * cK l + cQ l ∧ cP (l ++ [a]) = cH l ∧ cQ (l ++ [a]) = cK l
  | [] => by simp [cH_cons, cK_cons, cP_cons, cQ_cons, cH_nil, cK_nil, cP_nil, cQ_nil]
  | b :: l => by
    obtain ⟨h1, h2, h3, h4⟩ := c_snoc a l
    refine ⟨?_, ?_, ?_, ?_⟩
    · rw [List.cons_append, cH_cons, cH_cons, cP_cons, h1, h2]; grind
    · rw [List.cons_append, cK_cons, cK_cons, cQ_cons, h1]
    · rw [List.cons_append, cP_cons, cH_cons, h3, h4]
    · rw [List.cons_append, cQ_cons, cK_cons, h3]
theorem cH_snoc (a : Nat) (l : List Nat) : cH (l ++ [a]) = a * cH l + cP l := (c_snoc a l).1
theorem cK_snoc (a : Nat) (l : List Nat) : cK (l ++ [a]) = a * cK l + cQ l := (c_snoc a l).2.1
theorem cP_snoc (a : Nat) (l : List Nat) : cP (l ++ [a]) = cH l := (c_snoc a l).2.2.1
theorem cQ_snoc (a : Nat) (l : List Nat) : cQ (l ++ [a]) = cK l := (c_snoc a l).2.2.2
/-- neighbours: the determinant -/
theorem c_det : ∀ l : List Nat, (l.length % 2 = 0 → cH l * cQ l = cP l * cK l + 1) ∧ (l.length % 2 = 1 → cP l * cK l = cH l * cQ l + 1)
  | [] => by simp [cH_nil, cK_nil, cP_nil, cQ_nil]
  | a :: l => by
    obtain ⟨h0, h1⟩ := c_det l
    rw [cH_cons, cK_cons, cP_cons, cQ_cons, List.length_cons]
    refine ⟨fun h => ?_, fun h => ?_⟩
    · have := h1 (by omega); grind
    · have := h0 (by omega); grind
theorem c_cop (l : List Nat) : Nat.gcd (cH l) (cK l) = 1 := by
  have hd := c_det l
  have h1 : Nat.gcd (cH l) (cK l) ∣ cH l * cQ l := Nat.dvd_trans (Nat.gcd_dvd_left _ _) (Nat.dvd_mul_right _ _)
  have h2 : Nat.gcd (cH l) (cK l) ∣ cP l * cK l := Nat.dvd_trans (Nat.gcd_dvd_right _ _) (Nat.dvd_mul_left _ _)
  rcases Nat.mod_two_eq_zero_or_one l.length with h | h
  · have := hd.1 h
    rw [this] at h1
    exact Nat.dvd_one.mp ((Nat.dvd_add_right h2).mp h1)
  · have := hd.2 h
    rw [this] at h2
    exact Nat.dvd_one.mp ((Nat.dvd_add_right h1).mp h2)
/-- Euclid's terms make the fraction again -/
theorem cf_val : ∀ p q : Nat, p = Nat.gcd p q * cH (cf p q) ∧ q = Nat.gcd p q * cK (cf p q) := by
  refine cf_ind ?_ ?_
  · intro p; simp [cf_zero, cH_nil, cK_nil]
  · intro p q hq ih
    obtain ⟨h1, h2⟩ := ih
    have hg : Nat.gcd p q = Nat.gcd q (p % q) := by rw [Nat.gcd_comm p q, Nat.gcd_rec q p, Nat.gcd_comm]
    rw [hg, cf_pos p hq, cH_cons, cK_cons]
    refine ⟨?_, h1⟩
    have := Nat.div_add_mod p q
    generalize Nat.gcd q (p % q) = g at *
    generalize cf q (p % q) = l at *
    generalize p / q = d at *
    generalize p % q = r at *
    subst h2
    rw [← this, Nat.mul_add, ← Nat.mul_assoc, Nat.mul_comm g d, Nat.mul_assoc, ← h1]
    grind
theorem cf_cH {p q : Nat} (h : Nat.gcd p q = 1) : cH (cf p q) = p := by have := (cf_val p q).1; rw [h, Nat.one_mul] at this; exact this.symm
theorem cf_cK {p q : Nat} (h : Nat.gcd p q = 1) : cK (cf p q) = q := by have := (cf_val p q).2; rw [h, Nat.one_mul] at this; exact this.symm
theorem cf_scale {g : Nat} (hg : 0 < g) : ∀ p q : Nat, cf (g * p) (g * q) = cf p q := by
  refine cf_ind ?_ ?_
  · intro p; rfl
  · intro p q hq ih
    rw [cf_pos p hq, cf_pos (g * p) (Nat.mul_pos hg hq), Nat.mul_div_mul_left _ _ hg, Nat.mul_mod_mul_left, ih]
/-- how long -/
def fb : Nat → Nat
  | 0 => 0
  | 1 => 1
  | 2 => 2
  | n + 3 => fb (n + 2) + fb (n + 1)
theorem cf_len : ∀ p q : Nat, fb (cf p q).length ≤ q := by
  intro p q
  induction q using Nat.strongRecOn generalizing p with
  | ind q ih =>
    by_cases hq : q = 0
    · subst hq; simp [cf_zero, fb]
    · have hq : 0 < q := Nat.pos_of_ne_zero hq
      have hr := Nat.mod_lt p hq
      rw [cf_pos p hq, List.length_cons]
      by_cases h0 : p % q = 0
      · rw [h0, cf_zero]; exact hq
      · have hp : 0 < p % q := Nat.pos_of_ne_zero h0
        have hr2 := Nat.mod_lt q hp
        have i1 := ih (p % q) hr q
        have i2 := ih (q % (p % q)) (by omega) (p % q)
        have e := cf_pos q hp
        by_cases h1 : q % (p % q) = 0
        · rw [h1, cf_zero] at e
          rw [e]
          simp [fb]; omega
        · rw [e, List.length_cons]
          rw [e, List.length_cons] at i1
          have hp2 : 0 < q % (p % q) := Nat.pos_of_ne_zero h1
          rw [cf_pos _ hp2, List.length_cons] at i1 i2 ⊢
          generalize (cf (q % (p % q)) (p % q % (q % (p % q)))).length = L at *
          have hd := Nat.div_add_mod q (p % q)
          have : 0 < q / (p % q) := Nat.div_pos (by omega) hp
          have h5 : p % q ≤ (p % q) * (q / (p % q)) := Nat.le_mul_of_pos_right _ this
          have i1 : fb (L + 2) ≤ p % q := i1
          show fb (L + 2) + fb (L + 1) ≤ q
          omega
theorem fb_mono : ∀ n, fb n ≤ fb (n + 1)
  | 0 => by decide
  | 1 => by decide
  | n + 2 => by show fb (n + 2) ≤ fb (n + 2) + fb (n + 1); omega
theorem fb_le {a b : Nat} (h : a ≤ b) : fb a ≤ fb b := by
  induction b with
  | zero => have : a = 0 := by omega
            subst this; exact Nat.le_refl _
  | succ b ih =>
    rcases Nat.lt_or_ge b a with h1 | h1
    · have : a = b + 1 := by omega
      subst this; exact Nat.le_refl _
    · exact Nat.le_trans (ih h1) (fb_mono b)
theorem fb25 : fb 25 = 121393 := by decide +kernel
theorem len_lt {n q : Nat} (h : fb n ≤ q) (hq : q ≤ 100000) : n ≤ 24 := by
  rcases Nat.lt_or_ge n 25 with h1 | h1
  · omega
  · have := fb_le h1; rw [fb25] at this; omega

/-! sums for the sawteeth: X, Y, F, and how they change places -/
def fl (p q i : Nat) : Nat := i * p / q
def dX (p q : Nat) : Nat := sm (fun i => i * fl p q i) q
def dY (p q : Nat) : Nat := sm (fun i => fl p q i * fl p q i) q
def dF (p q : Nat) : Nat := sm (fun i => fl p q i) q
def s1 (n : Nat) : Nat := sm (fun i => i) n
def s2 (n : Nat) : Nat := sm (fun i => i * i) n
theorem s1_eq (n : Nat) : 2 * s1 n = n * (n - 1) := sm_id n
theorem s2_eq : ∀ n : Nat, 6 * (s2 n : Int) = ((n : Int) - 1) * n * (2 * n - 1)
  | 0 => by simp [s2, sm]
  | n + 1 => by
    have h : s2 (n + 1) = s2 n + n * n := rfl
    have ih := s2_eq n
    rw [h]; push_cast; grind
theorem fl_lt {p q i : Nat} (hi : i < q) (hp : 0 < p) : fl p q i < p := Nat.div_lt_of_lt_mul (by rw [Nat.mul_comm q p, Nat.mul_comm i p]; exact Nat.mul_lt_mul_of_pos_left hi hp)
/-- no multiple of the one is a multiple of the other, on the way -/
theorem cop_ne {p q i j : Nat} (h : Nat.gcd p q = 1) (hj : 0 < j) (hj2 : j < p) : i * p ≠ j * q := fun e => by
  have h1 : p ∣ j * q := ⟨i, by rw [← e, Nat.mul_comm]⟩
  have h2 : p ∣ j := Nat.Coprime.dvd_of_dvd_mul_right h h1
  exact absurd (Nat.le_of_dvd hj h2) (by omega)
/-- the numbers from g + 1 on -/
theorem sm_tail (q g : Nat) (hg : g < q) : 2 * sm (fun i => if g < i then i else 0) q + (g + 1) * g = q * (q - 1) := by
  have key : ∀ n, g < n → sm (fun i => if g < i then i else 0) n + s1 (g + 1) = s1 n := by
    intro n
    induction n with
    | zero => intro h; omega
    | succ n ih =>
      intro h
      by_cases hn : g < n
      · have := ih hn
        show sm (fun i => if g < i then i else 0) n + (if g < n then n else 0) + s1 (g + 1) = s1 n + n
        rw [if_pos hn]; omega
      · have hgn : g = n := by omega
        subst hgn
        have hz : sm (fun i => if g < i then i else 0) g = 0 := by
          rw [sm_congr (g := fun _ => 0) g (fun i hi => if_neg (by omega)), sm_zero]
        show sm (fun i => if g < i then i else 0) g + (if g < g then g else 0) + s1 (g + 1) = s1 (g + 1)
        rw [hz, if_neg (by omega)]; omega
  have h1 := key q hg
  have h2 := s1_eq q
  have h3 := s1_eq (g + 1)
  rw [Nat.add_sub_cancel] at h3
  omega
theorem ded_A {p q : Nat} (h : Nat.gcd p q = 1) (hp : 0 < p) (hq : 0 < q) : 2 * dX p q + dY q p + dF q p = (p - 1) * (q * (q - 1)) := by
  obtain ⟨t, rfl⟩ : ∃ t, p = t + 1 := ⟨p - 1, by omega⟩
  have e1 : dX (t + 1) q = sm (fun i => sm (fun j => if q * (j + 1) ≤ i * (t + 1) then i else 0) t) q := by
    refine sm_congr q (fun i hi => ?_)
    have hl := fl_lt (p := t + 1) hi hp
    have h1 : sm (fun j => if q * (j + 1) ≤ i * (t + 1) then i else 0) t = i * sm (fun j => if q * (j + 1) ≤ i * (t + 1) then 1 else 0) t := by
      rw [← sm_mul]
      refine sm_congr t (fun j _ => ?_)
      split <;> omega
    show i * fl (t + 1) q i = _
    rw [h1, cnt_div hq]
    have : i * (t + 1) / q = fl (t + 1) q i := rfl
    rw [this]
    congr 1
    omega
  have e2 : ∀ j, j < t → 2 * sm (fun i => if q * (j + 1) ≤ i * (t + 1) then i else 0) q + (fl q (t + 1) (j + 1) * fl q (t + 1) (j + 1) + fl q (t + 1) (j + 1)) = q * (q - 1) := by
    intro j hj
    have hg : fl q (t + 1) (j + 1) < q := fl_lt (p := q) (q := t + 1) (by omega) hq
    have h3 : sm (fun i => if q * (j + 1) ≤ i * (t + 1) then i else 0) q = sm (fun i => if fl q (t + 1) (j + 1) < i then i else 0) q := by
      refine sm_congr q (fun i hi => ?_)
      have hne := cop_ne (p := t + 1) (q := q) (i := i) (j := j + 1) h (by omega) (by omega)
      have h4 : i ≤ fl q (t + 1) (j + 1) ↔ i * (t + 1) ≤ (j + 1) * q := Nat.le_div_iff_mul_le hp
      have h5 : q * (j + 1) = (j + 1) * q := Nat.mul_comm _ _
      have : (q * (j + 1) ≤ i * (t + 1)) ↔ (fl q (t + 1) (j + 1) < i) := by
        rw [h5, ← Nat.not_le, h4]
        omega
      simp only [this]
    rw [h3]
    have := sm_tail q _ hg
    rw [Nat.add_mul, Nat.one_mul] at this
    exact this
  have e3 : 2 * sm (fun j => sm (fun i => if q * (j + 1) ≤ i * (t + 1) then i else 0) q) t + sm (fun j => fl q (t + 1) (j + 1) * fl q (t + 1) (j + 1) + fl q (t + 1) (j + 1)) t = t * (q * (q - 1)) := by
    rw [← sm_mul, ← sm_add, sm_congr t e2, sm_const]
  have e4 : dY q (t + 1) + dF q (t + 1) = sm (fun j => fl q (t + 1) (j + 1) * fl q (t + 1) (j + 1) + fl q (t + 1) (j + 1)) t := by
    unfold dY dF
    rw [← sm_add, sm_front]
    have : fl q (t + 1) 0 = 0 := by unfold fl; simp
    rw [this]
    simp
  rw [e1, sm_swap, Nat.add_sub_cancel]
  omega
theorem ded_F {p q : Nat} (h : Nat.gcd p q = 1) (hp : 0 < p) (hq : 0 < q) : 2 * dF p q = (p - 1) * (q - 1) := by
  obtain ⟨t, rfl⟩ : ∃ t, q = t + 1 := ⟨q - 1, by omega⟩
  have e0 : dF p (t + 1) = sm (fun i => fl p (t + 1) (i + 1)) t := by
    unfold dF
    rw [sm_front]
    have : fl p (t + 1) 0 = 0 := by unfold fl; simp
    rw [this]; omega
  have e1 : sm (fun i => fl p (t + 1) (i + 1)) t + sm (fun i => fl p (t + 1) (t - 1 - i + 1)) t = t * (p - 1) := by
    rw [← sm_add, sm_congr (g := fun _ => p - 1) t (fun i hi => ?_), sm_const]
    have hne := cop_ne (p := t + 1) (q := p) (i := fl p (t + 1) (i + 1)) (j := i + 1) (by rw [Nat.gcd_comm]; exact h) (by omega) (by omega)
    have hd := Nat.div_add_mod ((i + 1) * p) (t + 1)
    have hm := Nat.mod_lt ((i + 1) * p) (by omega : 0 < t + 1)
    have hx : fl p (t + 1) (i + 1) = (i + 1) * p / (t + 1) := rfl
    rw [← hx] at hd
    have hlt := fl_lt (p := p) (q := t + 1) (i := i + 1) (by omega) hp
    generalize hxx : fl p (t + 1) (i + 1) = x at *
    generalize ((i + 1) * p) % (t + 1) = u at *
    have hu : 0 < u := by
      rcases Nat.eq_zero_or_pos u with hz | hz
      · rw [hz, Nat.add_zero, Nat.mul_comm] at hd; exact absurd hd hne
      · exact hz
    have e2 : fl p (t + 1) (t - 1 - i + 1) = p - 1 - x := by
      unfold fl
      have h7 : (i + 1) * p + (t - 1 - i + 1) * p = (t + 1) * p := by rw [← Nat.add_mul]; congr 1; omega
      have h8 : (t - 1 - i + 1) * p = (t + 1 - u) + (t + 1) * (p - 1 - x) := by
        obtain ⟨w, hw⟩ : ∃ w, p = x + 1 + w := ⟨p - 1 - x, by omega⟩
        have hw2 : p - 1 - x = w := by omega
        rw [hw2]
        have h9 : (t + 1) * p = (t + 1) * x + (t + 1) + (t + 1) * w := by rw [hw, Nat.mul_add, Nat.mul_add, Nat.mul_one]
        omega
      rw [h8, Nat.add_mul_div_left _ _ (by omega), Nat.div_eq_of_lt (by omega)]
      omega
    rw [e2]
    omega
  have e5 := sm_rev (fun i => fl p (t + 1) (i + 1)) t
  have e6 : sm (fun i => fl p (t + 1) (t - 1 - i + 1)) t = sm (fun i => fl p (t + 1) (i + 1)) t := e5
  rw [e0, Nat.add_sub_cancel, Nat.mul_comm (p - 1) t]
  omega
/-- the top less a multiple of the bottom -/
theorem ded_mod {r q k : Nat} (hq : 0 < q) : dX (k * q + r) q = dX r q + k * s2 q ∧ dY (k * q + r) q = dY r q + 2 * k * dX r q + k * k * s2 q := by
  have e : ∀ i, fl (k * q + r) q i = fl r q i + k * i := fun i => by
    unfold fl
    rw [show i * (k * q + r) = i * r + q * (k * i) by grind, Nat.add_mul_div_left _ _ hq]
  unfold dX dY s2
  refine ⟨?_, ?_⟩
  · rw [sm_congr (g := fun i => i * fl r q i + k * (i * i)) q (fun i _ => by rw [e i]; grind), sm_add, sm_mul]
  · rw [sm_congr (g := fun i => (fl r q i * fl r q i + 2 * k * (i * fl r q i)) + k * k * (i * i)) q (fun i _ => by rw [e i]; grind), sm_add, sm_add, sm_mul, sm_mul]

/-! the way in the tree -/
theorem c_app : ∀ a b : List Nat, cH (a ++ b) = cH a * cH b + cP a * cK b ∧ cK (a ++ b) = cK a * cH b + cQ a * cK b
  | [], b => by simp [cH_nil, cK_nil, cP_nil, cQ_nil]
  | x :: a, b => by
    obtain ⟨h1, h2⟩ := c_app a b
    rw [List.cons_append, cH_cons, cK_cons, cH_cons, cK_cons, cP_cons, cQ_cons, h1, h2]
    refine ⟨?_, rfl⟩
    grind
theorem cH_pos1 : ∀ l : List Nat, (∀ x ∈ l, 1 ≤ x) → 1 ≤ cH l ∧ cK l ≤ cH l
  | [], _ => by simp [cH_nil, cK_nil]
  | a :: l, h => by
    obtain ⟨h1, h2⟩ := cH_pos1 l (fun x hx => h x (List.mem_cons_of_mem _ hx))
    have ha : 1 ≤ a := h a List.mem_cons_self
    have := Nat.le_mul_of_pos_left (cH l) ha
    rw [cH_cons, cK_cons]
    omega
theorem cH_drop_le : ∀ (i : Nat) (l : List Nat), (∀ x ∈ l, 1 ≤ x) → cH (l.drop i) ≤ cH l
  | 0, l, _ => by simp
  | i + 1, [], _ => by simp
  | i + 1, a :: l, h => by
    have h1 := cH_drop_le i l (fun x hx => h x (List.mem_cons_of_mem _ hx))
    have ha : 1 ≤ a := h a List.mem_cons_self
    have := Nat.le_mul_of_pos_left (cH l) ha
    rw [List.drop_succ_cons, cH_cons]
    omega
def rs (l : List Nat) (j : Nat) : Int := if j % 2 = 0 then (if j + 1 = l.length then (l.getD j 0 : Int) - 1 else l.getD j 0) else -(if j + 1 = l.length then (l.getD j 0 : Int) - 1 else l.getD j 0)
def loT (l : List Nat) (j : Nat) : Nat := if j % 2 = 0 then cP (l.take j) else cH (l.take j)
def loB (l : List Nat) (j : Nat) : Nat := if j % 2 = 0 then cQ (l.take j) else cK (l.take j)
def hiT (l : List Nat) (j : Nat) : Nat := if j % 2 = 0 then cH (l.take j) else cP (l.take j)
def hiB (l : List Nat) (j : Nat) : Nat := if j % 2 = 0 then cK (l.take j) else cQ (l.take j)
/-- a fraction's terms: all but the first at least 1, the last at least 2 where there are more -/
theorem cf_last : ∀ p q : Nat, q < p → Nat.gcd p q = 1 → ∀ x, (cf p q).getLast? = some x → 2 ≤ x := by
  refine cf_ind ?_ ?_
  · intro p _ _ x hx; rw [cf_zero] at hx; simp at hx
  · intro p q hq ih h hg x hx
    rw [cf_pos p hq] at hx
    have hm := Nat.mod_lt p hq
    by_cases h0 : p % q = 0
    · rw [h0, cf_zero] at hx
      simp at hx
      have hd : q ∣ p := Nat.dvd_of_mod_eq_zero h0
      have : Nat.gcd p q = q := by rw [Nat.gcd_comm]; exact Nat.gcd_eq_left hd
      have hq1 : q = 1 := by omega
      subst hq1
      rw [Nat.div_one] at hx
      omega
    · have e : (p / q :: cf q (p % q)).getLast? = (cf q (p % q)).getLast? := by
        rw [cf_pos q (Nat.pos_of_ne_zero h0)]; rfl
      rw [e] at hx
      refine ih hm ?_ x hx
      rw [← hg, Nat.gcd_comm p q, Nat.gcd_rec q p, Nat.gcd_comm]
theorem drop_cons' {l : List Nat} {j : Nat} (h : j < l.length) : l.drop j = l.getD j 0 :: l.drop (j + 1) := by
  rw [List.drop_eq_getElem_cons h, List.getD_eq_getElem?_getD, List.getElem?_eq_getElem h]; rfl
theorem take_snoc {l : List Nat} {j : Nat} (h : j < l.length) : l.take (j + 1) = l.take j ++ [l.getD j 0] := by
  rw [List.take_succ, List.getElem?_eq_getElem h, List.getD_eq_getElem?_getD, List.getElem?_eq_getElem h]; rfl
/-- the two distances that the walk divides: Euclid's pair -/
theorem walk_uv {P Q : Nat} (l : List Nat) (hP : cH l = P) (hQ : cK l = Q) (j : Nat) (hj : j ≤ l.length) : (P : Int) * loB l j - loT l j * Q = (if j % 2 = 0 then (cH (l.drop j) : Int) else cK (l.drop j)) ∧ (hiT l j : Int) * Q - P * hiB l j = (if j % 2 = 0 then (cK (l.drop j) : Int) else cH (l.drop j)) := by
  have ha := c_app (l.take j) (l.drop j)
  rw [List.take_append_drop, hP, hQ] at ha
  have hd := c_det (l.take j)
  have hlen : (l.take j).length = j := by rw [List.length_take]; omega
  rw [hlen] at hd
  unfold loT loB hiT hiB
  obtain ⟨e1, e2⟩ := ha
  generalize cH (l.take j) = a at *
  generalize cK (l.take j) = b at *
  generalize cP (l.take j) = c at *
  generalize cQ (l.take j) = d at *
  generalize cH (l.drop j) = x at *
  generalize cK (l.drop j) = y at *
  rcases Nat.mod_two_eq_zero_or_one j with h | h
  · have hd := hd.1 h
    simp only [h, if_true]
    have hd' : (a : Int) * d = c * b + 1 := by exact_mod_cast hd
    subst e1 e2
    push_cast
    constructor <;> grind
  · have hd := hd.2 h
    have h' : ¬ j % 2 = 0 := by omega
    simp only [h', if_false]
    have hd' : (c : Int) * b = a * d + 1 := by exact_mod_cast hd
    subst e1 e2
    push_cast
    constructor <;> grind

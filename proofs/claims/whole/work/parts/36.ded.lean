/-! reciprocity, and the formula by the terms -/
theorem cop_c (m : List Nat) : Nat.gcd (cK m) (cH m) = 1 := by rw [Nat.gcd_comm]; exact c_cop m
theorem R_turn {p q X Yp Xq Yq F Sp Sq : Int} (h1 : 2 * X + Yq + F = (p - 1) * (q * (q - 1))) (h2 : 2 * Xq + Yp + F = (q - 1) * (p * (p - 1))) (h3 : 2 * F = (p - 1) * (q - 1)) (h4 : 6 * Sp = (p - 1) * p * (2 * p - 1)) (h5 : 6 * Sq = (q - 1) * q * (2 * q - 1)) (h6 : q * q * Sp - 2 * q * p * Xq + p * p * Yq = Sp) (hp : p ≠ 0) : p * p * Sq - 2 * p * q * X + q * q * Yp = Sq := by
  have key : p * (6 * (p * p * Sq - 2 * p * q * X + q * q * Yp - Sq)) = 0 := by
    have e1 : 2 * X = (p - 1) * (q * (q - 1)) - Yq - F := by omega
    have e2 : Yp = (q - 1) * (p * (p - 1)) - 2 * Xq - F := by omega
    have e3 : p * (6 * (p * p * Sq - 2 * p * q * X + q * q * Yp - Sq)) = (p * p * p - p) * (6 * Sq) - 6 * (p * p * q) * (2 * X) + 6 * p * (q * q) * Yp := by grind
    rw [e3, e1, e2, h5]
    have e4 : (p * p * p - p) * ((q - 1) * q * (2 * q - 1)) - 6 * (p * p * q) * ((p - 1) * (q * (q - 1)) - Yq - F) + 6 * p * (q * q) * ((q - 1) * (p * (p - 1)) - 2 * Xq - F) = (p * p * p - p) * ((q - 1) * q * (2 * q - 1)) + 6 * q * (q * q * Sp - 2 * q * p * Xq + p * p * Yq) - q * (q * q) * (6 * Sp) + 3 * (p * q * (p - q)) * (2 * F) := by grind
    rw [e4, h6, h3]
    have e5 : 6 * q * Sp = q * (6 * Sp) := by grind
    rw [e5, h4]
    grind
  rcases Int.mul_eq_zero.mp key with h | h
  · exact absurd h hp
  · omega
theorem ded_R : ∀ m : List Nat, (∀ x ∈ m, 1 ≤ x) → m ≠ [] → (cH m : Int) * cH m * s2 (cK m) - 2 * cH m * cK m * dX (cH m) (cK m) + cK m * cK m * dY (cH m) (cK m) = s2 (cK m)
  | [], _, h => absurd rfl h
  | a :: m, hm, _ => by
    have hm' : ∀ x ∈ m, 1 ≤ x := fun x hx => hm x (List.mem_cons_of_mem _ hx)
    obtain ⟨hr, -⟩ := cH_pos1 m hm'
    have hcop := c_cop m
    rw [cH_cons, cK_cons]
    have hq0 : 0 < cH m := hr
    obtain ⟨x1, x2⟩ := ded_mod (r := cK m) (k := a) hq0
    rw [x1, x2]
    have base : (cK m : Int) * cK m * s2 (cH m) - 2 * cK m * cH m * dX (cK m) (cH m) + cH m * cH m * dY (cK m) (cH m) = s2 (cH m) := by
      rcases m with _ | ⟨b, m'⟩
      · decide
      · have ih := ded_R (b :: m') hm' (List.cons_ne_nil _ _)
        have hk : 0 < cK (b :: m') := by
          rw [cK_cons]
          exact (cH_pos1 m' (fun x hx => hm' x (List.mem_cons_of_mem _ hx))).1
        generalize cH (b :: m') = q at *
        generalize cK (b :: m') = p at *
        have hcop' : Nat.gcd p q = 1 := by rw [Nat.gcd_comm]; exact hcop
        have a1 := ded_A hcop' hk hq0
        have a2 := ded_A hcop hq0 hk
        have f1 := ded_F hcop' hk hq0
        have f2 := ded_F hcop hq0 hk
        have hF : dF p q = dF q p := by rw [Nat.mul_comm (q - 1) (p - 1)] at f2; omega
        have c1 : ((p - 1 : Nat) : Int) = p - 1 := by omega
        have c2 : ((q - 1 : Nat) : Int) = q - 1 := by omega
        have a1' : 2 * (dX p q : Int) + dY q p + dF q p = ((p : Int) - 1) * (q * (q - 1)) := by rw [← c1, ← c2]; exact_mod_cast a1
        have a2' : 2 * (dX q p : Int) + dY p q + dF q p = ((q : Int) - 1) * (p * (p - 1)) := by rw [← c1, ← c2]; rw [hF] at a2; exact_mod_cast a2
        have f2' : 2 * (dF q p : Int) = ((p : Int) - 1) * (q - 1) := by rw [← c1, ← c2, Int.mul_comm (p - 1 : Nat)]; exact_mod_cast f2
        exact R_turn a1' a2' f2' (s2_eq p) (s2_eq q) ih (by omega)
    generalize cH m = q at *
    generalize cK m = p at *
    push_cast
    grind
def al : List Nat → Int
  | [] => 0
  | a :: l => a - al l
def Bm (m : List Nat) : Int := cK m + cH m * al m + (if m.length % 2 = 1 then (cP m : Int) - 3 * cH m else -(cP m : Int))
theorem Bm_rel (a : Nat) (m : List Nat) : (cH m : Int) * Bm (a :: m) + cH (a :: m) * Bm m = cH m * cH m + cH (a :: m) * cH (a :: m) + 1 - 3 * cH m * cH (a :: m) := by
  have hd := c_det (a :: m)
  unfold Bm
  rw [cH_cons, cK_cons, cP_cons, cQ_cons] at *
  rw [List.length_cons] at *
  show (cH m : Int) * ((cH m : Int) + ((a * cH m + cK m : Nat) : Int) * (a - al m) + _) + _ = _
  rcases Nat.mod_two_eq_zero_or_one m.length with hp | hp
  · have h1 : (m.length + 1) % 2 = 1 := by omega
    have h2 : ¬ m.length % 2 = 1 := by omega
    have hd := hd.2 h1
    have hd' : ((a : Int) * cP m + cQ m) * cH m = (a * cH m + cK m) * cP m + 1 := by exact_mod_cast hd
    rw [if_pos h1, if_neg h2]
    push_cast
    grind
  · have h1 : ¬ (m.length + 1) % 2 = 1 := by omega
    have hd := hd.1 (by omega)
    have hd' : ((a : Int) * cH m + cK m) * cP m = (a * cP m + cQ m) * cH m + 1 := by exact_mod_cast hd
    rw [if_neg h1, if_pos hp]
    push_cast
    grind
theorem B_turn {r q X Xq Yq F S B B' : Int} (h1 : 2 * X + Yq + F = (r - 1) * (q * (q - 1))) (h3 : 2 * F = (r - 1) * (q - 1)) (h4 : 6 * S = (r - 1) * r * (2 * r - 1)) (h6 : q * q * S - 2 * q * r * Xq + r * r * Yq = S) (h7 : 12 * Xq = 2 * q * (r - 1) * (2 * r - 1) - 3 * r * (r - 1) - B') (h8 : r * B + q * B' = r * r + q * q + 1 - 3 * r * q) (hr : r ≠ 0) : 12 * X = 2 * r * (q - 1) * (2 * q - 1) - 3 * q * (q - 1) - B := by
  have key : r * (r * (12 * X - (2 * r * (q - 1) * (2 * q - 1) - 3 * q * (q - 1) - B))) = 0 := by
    have e1 : 2 * X = (r - 1) * (q * (q - 1)) - Yq - F := by omega
    have e0 : r * (r * (12 * X - (2 * r * (q - 1) * (2 * q - 1) - 3 * q * (q - 1) - B))) = 6 * r * r * (2 * X) - r * r * (2 * r * (q - 1) * (2 * q - 1) - 3 * q * (q - 1)) + r * (r * B) := by grind
    have e8 : r * B = r * r + q * q + 1 - 3 * r * q - q * B' := by omega
    rw [e0, e1, e8]
    have e2 : 6 * r * r * ((r - 1) * (q * (q - 1)) - Yq - F) = 6 * r * r * ((r - 1) * (q * (q - 1))) - 6 * (q * q * S - 2 * q * r * Xq + r * r * Yq) + q * q * (6 * S) - q * r * (12 * Xq) - 3 * r * r * (2 * F) := by grind
    rw [e2, h6, h3, h4, h7]
    have e5 : 6 * S = (r - 1) * r * (2 * r - 1) := h4
    grind
  rcases Int.mul_eq_zero.mp key with h | h
  · exact absurd h hr
  · rcases Int.mul_eq_zero.mp h with h | h
    · exact absurd h hr
    · omega
theorem ded_B : ∀ m : List Nat, (∀ x ∈ m, 1 ≤ x) → 12 * (dX (cK m) (cH m) : Int) = 2 * cK m * (cH m - 1) * (2 * cH m - 1) - 3 * cH m * (cH m - 1) - Bm m
  | [], _ => by decide
  | a :: m, hm => by
    have hm' : ∀ x ∈ m, 1 ≤ x := fun x hx => hm x (List.mem_cons_of_mem _ hx)
    have ih := ded_B m hm'
    obtain ⟨hr, -⟩ := cH_pos1 m hm'
    have hR := ded_R (a :: m) hm (List.cons_ne_nil _ _)
    have hB := Bm_rel a m
    have hcop := cop_c (a :: m)
    obtain ⟨hq, -⟩ := cH_pos1 (a :: m) hm
    have hqe := cH_cons a m
    rw [cK_cons] at *
    obtain ⟨x1, -⟩ := ded_mod (r := cK m) (k := a) (q := cH m) hr
    have hs := s2_eq (cH m)
    have a1 := ded_A hcop hr hq
    have f2 := ded_F (by rw [Nat.gcd_comm]; exact hcop) hq hr
    generalize Bm (a :: m) = B at *
    generalize Bm m = B' at *
    rw [← hqe] at x1
    generalize cH (a :: m) = q at *
    generalize cH m = r at *
    generalize cK m = r' at *
    have c1 : ((r - 1 : Nat) : Int) = r - 1 := by omega
    have c2 : ((q - 1 : Nat) : Int) = q - 1 := by omega
    have a1' : 2 * (dX r q : Int) + dY q r + dF q r = ((r : Int) - 1) * (q * (q - 1)) := by rw [← c1, ← c2]; exact_mod_cast a1
    have f2' : 2 * (dF q r : Int) = ((r : Int) - 1) * (q - 1) := by rw [← c1, ← c2, Int.mul_comm (r - 1 : Nat)]; exact_mod_cast f2
    have h7 : 12 * (dX q r : Int) = 2 * q * (r - 1) * (2 * r - 1) - 3 * r * (r - 1) - B' := by
      rw [x1]; push_cast
      have : 12 * ((dX r' r : Int) + a * s2 r) = 12 * (dX r' r : Int) + 2 * a * (6 * s2 r) := by grind
      rw [this, ih, hs, hqe]; push_cast; grind
    exact B_turn a1' f2' hs hR h7 hB (by omega)

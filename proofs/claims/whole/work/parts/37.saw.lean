/-! sawteeth -/
def tS (P Q : Nat) : Nat → Int
  | 0 => 0
  | k + 1 => tS P Q k + (2 * ((k + 1 : Nat) : Int) - Q) * (2 * (((k + 1) * P % Q : Nat) : Int) - Q)
theorem tS_eq (P Q : Nat) : ∀ k, tS P Q k = 4 * P * s2 (k + 1) - 4 * Q * (sm (fun i => i * fl P Q i) (k + 1) : Int) - 2 * Q * s1 (k + 1) - 2 * Q * P * s1 (k + 1) + 2 * Q * Q * (sm (fun i => fl P Q i) (k + 1) : Int) + Q * Q * k
  | 0 => by
    have h1 : s2 (0 + 1) = 0 := rfl
    have h2 : s1 (0 + 1) = 0 := rfl
    have h4 : fl P Q 0 = 0 := by unfold fl; simp
    have h3 : sm (fun i => i * fl P Q i) (0 + 1) = 0 := by show 0 + 0 * fl P Q 0 = 0; simp
    have h5 : sm (fun i => fl P Q i) (0 + 1) = 0 := by show 0 + fl P Q 0 = 0; rw [h4]
    rw [h1, h2, h3, h5]
    simp [tS]
  | k + 1 => by
    have ih := tS_eq P Q k
    have h1 : s2 (k + 1 + 1) = s2 (k + 1) + (k + 1) * (k + 1) := rfl
    have h2 : s1 (k + 1 + 1) = s1 (k + 1) + (k + 1) := rfl
    have h3 : sm (fun i => i * fl P Q i) (k + 1 + 1) = sm (fun i => i * fl P Q i) (k + 1) + (k + 1) * fl P Q (k + 1) := rfl
    have h4 : sm (fun i => fl P Q i) (k + 1 + 1) = sm (fun i => fl P Q i) (k + 1) + fl P Q (k + 1) := rfl
    have hd : Q * fl P Q (k + 1) + (k + 1) * P % Q = (k + 1) * P := Nat.div_add_mod _ _
    have hd' : (Q : Int) * fl P Q (k + 1) + (((k + 1) * P % Q : Nat) : Int) = ((k : Int) + 1) * P := by exact_mod_cast hd
    show tS P Q k + (2 * ((k + 1 : Nat) : Int) - Q) * (2 * (((k + 1) * P % Q : Nat) : Int) - Q) = _
    rw [ih, h1, h2, h3, h4]
    generalize (((k + 1) * P % Q : Nat) : Int) = R at *
    have hR : R = ((k : Int) + 1) * P - Q * fl P Q (k + 1) := by omega
    rw [hR]
    push_cast
    grind
theorem saw_main {P Q : Nat} (h : Inv P Q) : 3 * tS P Q (Q - 1) = Q * Bm (cf Q (P % Q)) := by
  have hl := h.2
  have hm := Nat.mod_lt P hl.2.1
  by_cases h1 : Q = 1
  · subst h1
    have : P % 1 = 0 := Nat.mod_one P
    rw [this]
    show (3 : Int) * 0 = ((1 : Nat) : Int) * Bm []
    decide
  · have hp : 0 < P := by
      rcases Nat.eq_zero_or_pos P with hz | hz
      · have := h.1; rw [hz, Nat.gcd_zero_left] at this; omega
      · exact hz
    have hc : Nat.gcd Q (P % Q) = 1 := by rw [← h.1, Nat.gcd_comm P Q, Nat.gcd_rec Q P, Nat.gcd_comm]
    have e := tS_eq P Q (Q - 1)
    rw [show Q - 1 + 1 = Q by omega] at e
    have eX : sm (fun i => i * fl P Q i) Q = dX P Q := rfl
    have eF : sm (fun i => fl P Q i) Q = dF P Q := rfl
    rw [eX, eF] at e
    have hF := ded_F h.1 hp hl.2.1
    have hB := ded_B (cf Q (P % Q)) (cf_all1 Q (P % Q) (by omega))
    rw [cf_cH hc, cf_cK hc] at hB
    obtain ⟨x1, -⟩ := ded_mod (r := P % Q) (k := P / Q) (q := Q) hl.2.1
    have hPd : P / Q * Q + P % Q = P := by have := Nat.div_add_mod P Q; rw [Nat.mul_comm] at this; exact this
    rw [hPd] at x1
    have hs2 := s2_eq Q
    have hs1 := s1_eq Q
    have c1 : ((P - 1 : Nat) : Int) = P - 1 := by omega
    have c2 : ((Q - 1 : Nat) : Int) = Q - 1 := by omega
    have hF' : 2 * (dF P Q : Int) = ((P : Int) - 1) * (Q - 1) := by rw [← c1, ← c2]; exact_mod_cast hF
    have hs1' : 2 * (s1 Q : Int) = (Q : Int) * (Q - 1) := by rw [← c2]; exact_mod_cast hs1
    have x1' : (dX P Q : Int) = dX (P % Q) Q + (P / Q : Nat) * s2 Q := by exact_mod_cast x1
    have hP' : ((P / Q : Nat) : Int) * Q + ((P % Q : Nat) : Int) = P := by exact_mod_cast hPd
    rw [e, c2]
    generalize (dX P Q : Int) = X at *
    generalize (dX (P % Q) Q : Int) = X0 at *
    generalize ((P / Q : Nat) : Int) = a at *
    generalize ((P % Q : Nat) : Int) = r at *
    generalize Bm (cf Q (P % Q)) = B at *
    generalize (s2 Q : Int) = S at *
    generalize (s1 Q : Int) = S1 at *
    generalize (dF P Q : Int) = F at *
    have e1 : 3 * (4 * (P : Int) * S - 4 * Q * X - 2 * Q * S1 - 2 * Q * P * S1 + 2 * Q * Q * F + Q * Q * (Q - 1)) = 2 * P * (6 * S) - Q * (12 * X) - 3 * Q * (2 * S1) - 3 * Q * P * (2 * S1) + 3 * Q * Q * (2 * F) + 3 * Q * Q * (Q - 1) := by grind
    have e2 : 12 * X = 12 * X0 + 2 * a * (6 * S) := by rw [x1']; grind
    rw [e1, e2, hB, hs2, hs1', hF', ← hP']
    grind
theorem mul_abs {a b c : Int} (h1 : -c ≤ a) (h2 : a ≤ c) (h3 : -c ≤ b) (h4 : b ≤ c) : -(c * c) ≤ a * b ∧ a * b ≤ c * c := by
  have p1 := Int.mul_nonneg (by omega : 0 ≤ c - a) (by omega : 0 ≤ c - b)
  have p2 := Int.mul_nonneg (by omega : 0 ≤ c + a) (by omega : 0 ≤ c + b)
  have p3 := Int.mul_nonneg (by omega : 0 ≤ c - a) (by omega : 0 ≤ c + b)
  have p4 := Int.mul_nonneg (by omega : 0 ≤ c + a) (by omega : 0 ≤ c - b)
  have e1 : (c - a) * (c - b) = c * c - a * c - b * c + a * b := by grind
  have e2 : (c + a) * (c + b) = c * c + a * c + b * c + a * b := by grind
  have e3 : (c - a) * (c + b) = c * c - a * c + b * c - a * b := by grind
  have e4 : (c + a) * (c - b) = c * c + a * c - b * c - a * b := by grind
  omega
theorem tS_le {P Q : Nat} (hQ : 0 < Q) (hQ2 : Q ≤ 100000) : ∀ k, k < Q → -(10000000000 * (k : Int)) ≤ tS P Q k ∧ tS P Q k ≤ 10000000000 * (k : Int)
  | 0, _ => by simp [tS]
  | k + 1, hk => by
    obtain ⟨h1, h2⟩ := tS_le (P := P) hQ hQ2 k (by omega)
    have hm := Nat.mod_lt ((k + 1) * P) hQ
    generalize hM : (k + 1) * P % Q = M at *
    have e : tS P Q (k + 1) = tS P Q k + (2 * ((k + 1 : Nat) : Int) - Q) * (2 * (M : Int) - Q) := by rw [← hM]; rfl
    have hb := mul_abs (a := 2 * ((k + 1 : Nat) : Int) - Q) (b := 2 * (M : Int) - Q) (c := 100000) (by omega) (by omega) (by omega) (by omega)
    rw [e]
    push_cast at *
    omega
theorem lI_tdiv {a b : Int} (ha : big a) (hb : 1 < b) (hb2 : b < 9223372036854775808) : lI a / lI b = lI (a.tdiv b) := by
  apply Int64.toInt_inj.mp
  have hr : big (a.tdiv b) := by
    have h1 : (a.tdiv b).natAbs ≤ a.natAbs := by rw [Int.natAbs_tdiv]; exact Nat.div_le_self _ _
    have h2 := ha.1
    have h3 := ha.2
    rcases Int.le_total 0 a with h0 | h0
    · have := Int.tdiv_nonneg h0 (by omega : 0 ≤ b)
      exact ⟨by omega, by omega⟩
    · exact ⟨by omega, by
        have : (a.tdiv b) ≤ 0 := by
          have := Int.tdiv_nonneg (by omega : 0 ≤ -a) (by omega : 0 ≤ b)
          rw [Int.neg_tdiv] at this
          omega
        omega⟩
  rw [Int64.toInt_div_of_ne_right _ _ (by rw [Ne, ← Int64.toInt_inj, lI_toInt ⟨by omega, hb2⟩]; simp; omega), lI_toInt ha, lI_toInt ⟨by omega, hb2⟩, lI_toInt hr]
def aS (m : List Nat) : Nat → Int
  | 0 => 0
  | k + 1 => aS m k + (if k % 2 = 0 then (m.getD k 0 : Int) else -(m.getD k 0 : Int))
theorem aS_cons (a : Nat) (m : List Nat) : ∀ k, aS (a :: m) (k + 1) = a - aS m k
  | 0 => by simp [aS]
  | k + 1 => by
    have ih := aS_cons a m k
    show aS (a :: m) (k + 1) + (if (k + 1) % 2 = 0 then ((a :: m).getD (k + 1) 0 : Int) else -((a :: m).getD (k + 1) 0 : Int)) = a - (aS m k + (if k % 2 = 0 then (m.getD k 0 : Int) else -(m.getD k 0 : Int)))
    rw [ih, List.getD_cons_succ]
    rcases Nat.mod_two_eq_zero_or_one k with hp | hp
    · rw [if_neg (by omega), if_pos hp]; omega
    · rw [if_pos (by omega), if_neg (by omega)]; omega
theorem aS_al : ∀ m : List Nat, aS m m.length = al m
  | [] => rfl
  | a :: m => by rw [List.length_cons, aS_cons, aS_al m]; rfl
theorem msaw_loop {P Q : Nat} (h : Inv P Q) (mth : Int32) : ∀ (d i fu : Nat), i + d + 1 = Q → d < fu → fX4_sawteeth_L12 (nI P) (nI Q) fu mth (lI (tS P Q i)) (lI ((i * P % Q : Nat) : Int)) (lI ((i + 1 : Nat) : Int)) = some (lI ((Bm (cf Q (P % Q))).tdiv 2), mth) := by
  have hl := h.2
  intro d
  induction d with
  | zero =>
    intro i fu hi hf
    obtain ⟨fu, rfl⟩ : ∃ g, fu = g + 1 := ⟨fu - 1, by omega⟩
    have hiq : i = Q - 1 := by omega
    have hb := tS_le (P := P) hl.2.1 hl.2.2 i (by omega)
    have hm := saw_main h
    rw [← hiq] at hm
    show fX4_sawteeth_B12 _ (nI P) (nI Q) _ _ _ _ = _
    unfold fX4_sawteeth_B12
    rw [nI_L (by omega), if_pos ((lc_ge ⟨by omega, by omega⟩ ⟨by omega, by omega⟩).mpr (by omega)), lI2, lI3, lI_mul, lI_mul, ckL_n (by omega) ⟨by omega, by omega⟩, lI_tdiv ⟨by omega, by omega⟩ (by omega) (by omega), hm, Int.mul_comm 2, Int.mul_tdiv_mul_of_pos _ _ (by omega)]
  | succ d ih =>
    intro i fu hi hf
    obtain ⟨fu, rfl⟩ : ∃ g, fu = g + 1 := ⟨fu - 1, by omega⟩
    show fX4_sawteeth_B12 (fX4_sawteeth_L12 (nI P) (nI Q) fu) (nI P) (nI Q) _ _ _ _ = _
    unfold fX4_sawteeth_B12
    have hml := Nat.mod_lt (i * P) hl.2.1
    have e1 : lI ((i * P % Q : Nat) : Int) + lI P = lI ((i * P % Q + P : Nat) : Int) := by rw [lI_add]; push_cast; rfl
    have e2 : (i * P % Q + P) % Q = (i + 1) * P % Q := by rw [Nat.mod_add_mod, Nat.add_mul, Nat.one_mul]
    have e3 : lI ((i * P % Q + P : Nat) : Int) - lI ((i * P % Q + P : Nat) : Int) / lI Q * lI Q = lI (((i + 1) * P % Q : Nat) : Int) := by
      rw [lI_rem (by omega) (by omega) (by omega) (by omega), ← Int.natCast_emod, e2]
    have e4 : lI ((i + 1 : Nat) : Int) + 1 = lI ((i + 1 + 1 : Nat) : Int) := by rw [lI1, lI_add]; push_cast; rfl
    have e5 : tS P Q i + (2 * ((i + 1 : Nat) : Int) - Q) * (2 * (((i + 1) * P % Q : Nat) : Int) - Q) = tS P Q (i + 1) := rfl
    rw [nI_L (by omega), nI_L (by omega), if_neg (fun hh => by have := (lc_ge ⟨by omega, by omega⟩ ⟨by omega, by omega⟩).mp hh; omega), ckL_n (by omega) ⟨by omega, by omega⟩, nm_x, nm_x, nm_x, e1, e3, e4, lI2, lI_mul, lI_mul, lI_sub, lI_sub, lI_mul, lI_add, e5]
    exact ih (i + 1) fu (by omega) (by omega)
theorem csaw_loop {P Q : Nat} {qs ts bs : Nat → Int32} {cn : Int32} (h : SOk P Q qs ts bs cn) {a0 : Nat} {m : List Nat} (hc : cf P Q = a0 :: m) (hB : big (Bm m)) (hq : cH m = Q) (hr : (P : Int) - a0 * Q = cK m) : ∀ (d k fu : Nat), k + d = m.length → d < fu → fX3_sawteeth_L15 qs ts bs cn fu (nI m.length) (lI (aS m k)) (nI (k + 1)) = some (lI ((Bm m).tdiv 2)) := by
  have hl := h.1.2
  have hlen := h.len
  have hmlen : (cf P Q).length = m.length + 1 := by rw [hc]; rfl
  intro d
  induction d with
  | zero =>
    intro k fu hk hf
    obtain ⟨fu, rfl⟩ : ∃ g, fu = g + 1 := ⟨fu - 1, by omega⟩
    have : k = m.length := by omega
    subst this
    show fX3_sawteeth_B15 _ qs ts bs cn _ _ _ = _
    unfold fX3_sawteeth_B15
    have q0 : qs (Int32.toNatClampNeg 0) = nI a0 := by
      have := h.2.2.2.1 0 (by omega)
      rw [hc] at this
      exact this
    have ha0 : a0 ≤ 100000 := cf_b h.1 a0 (by rw [hc]; exact List.mem_cons_self)
    have hbb : fX0_bottomBefore bs cn = some (nI (cP m)) := by have := h.2.bottomBefore; rw [hc, cQ_cons] at this; exact this
    have hcp : cP m ≤ 100000 := by
      have hp9 := c_det m
      by_cases hz : 0 < P
      · have := (cPQ_le h.1 hz).2
        rw [cf_cK h.1.1, hc, cQ_cons] at this
        omega
      · have hP0 : P = 0 := by omega
        subst hP0
        have hQ1 : Q = 1 := by have := h.1.1; rw [Nat.gcd_zero_left] at this; exact this
        subst hQ1
        have : cf 0 1 = [0] := by decide
        rw [this] at hc
        injection hc with _ h2
        subst h2
        decide
    rw [if_pos (nI_lt (by omega) (by omega)), bd1_e h.bottom, nm_x, bd1_e h.top, q0]
    show ckI (nI 0) 32 _ = _
    rw [ck_in (by decide) (by decide), nm_x, bd1_e hbb, nm_x, ckZ2, rem2 (by omega), nI_L (by omega), nI_L (by omega), nI_L (by omega), nI_L (by omega), lI_mul, lI_sub, hr, aS_al]
    have e : ∀ y : Int, y = (if m.length % 2 = 1 then (cP m : Int) - 3 * cH m else -(cP m : Int)) → fX3_sawteeth_J130 qs ts bs cn (lI (al m)) (lI Q) (lI (cK m)) (lI y) = some (lI ((Bm m).tdiv 2)) := fun y hy => by
      unfold fX3_sawteeth_J130
      have hB2 : (cK m : Int) + Q * al m + y = Bm m := by unfold Bm; rw [hy, hq]
      rw [lI2, ckL_n (by omega) ⟨by omega, by omega⟩, lI_mul, lI_add, lI_add, hB2, lI_tdiv hB (by omega) (by omega)]
    rcases Nat.mod_two_eq_zero_or_one m.length with hp | hp
    · rw [hp, if_neg (by decide), lI_neg]
      exact e _ (by rw [if_neg (by omega)])
    · rw [hp, if_pos (by decide), lI3, lI_mul, lI_sub]
      exact e _ (by rw [if_pos hp, hq])
  | succ d ih =>
    intro k fu hk hf
    obtain ⟨fu, rfl⟩ : ∃ g, fu = g + 1 := ⟨fu - 1, by omega⟩
    show fX3_sawteeth_B15 (fX3_sawteeth_L15 qs ts bs cn fu) qs ts bs cn _ _ _ = _
    unfold fX3_sawteeth_B15
    have hx : m.getD k 0 ≤ 100000 := by
      rw [List.getD_eq_getElem?_getD, List.getElem?_eq_getElem (by omega)]
      exact cf_b h.1 _ (by rw [hc]; exact List.mem_cons_of_mem _ (List.getElem_mem _))
    have hqk : qs (k + 1) = nI (m.getD k 0) := by
      rw [h.2.2.2.1 (k + 1) (by omega), hc, List.getD_cons_succ]
    have key : ∀ y : Int, y = (if k % 2 = 0 then (m.getD k 0 : Int) else -(m.getD k 0 : Int)) → fX3_sawteeth_J56 (fX3_sawteeth_L15 qs ts bs cn fu) qs ts bs cn (nI m.length) (nI (k + 1)) (lI (aS m k)) (lI y) = some (lI ((Bm m).tdiv 2)) := fun y hy => by
      unfold fX3_sawteeth_J56
      rw [nm_x, nm_x, nI_1, lI_add]
      have : aS m k + y = aS m (k + 1) := by rw [hy]; rfl
      rw [this]
      exact ih (k + 1) fu (by omega) (by omega)
    rw [if_neg (nI_nlt (by omega) (by omega)), ckZ2, rem2 (by omega), ck_in (by omega) (by decide), ck_in (by omega) (by decide), nI_clamp (by omega), hqk]
    rcases Nat.mod_two_eq_zero_or_one k with hp | hp
    · rw [show (k + 1) % 2 = 1 by omega, if_pos (by decide), nI_L (by omega)]
      exact key _ (by rw [if_pos hp])
    · rw [show (k + 1) % 2 = 0 by omega, if_neg (by decide), nI_iI (m.getD k 0), iI_neg, iI_l ⟨by omega, by omega⟩]
      exact key _ (by rw [if_neg (by omega)])
theorem op_sawteeth {P Q : Nat} {qs ts bs : Nat → Int32} {cn : Int32} (h : SOk P Q qs ts bs cn) (mth : Int32) : ∃ r, fX3_sawteeth qs ts bs cn = some r ∧ fX4_sawteeth (nI P) (nI Q) mth = some (r, 0) := by
  have hl := h.1.2
  have hlen := h.len
  have hc := cf_pos P hl.2.1
  have hmod := Nat.mod_lt P hl.2.1
  have hcop : Nat.gcd Q (P % Q) = 1 := by rw [← h.1.1, Nat.gcd_comm P Q, Nat.gcd_rec Q P, Nat.gcd_comm]
  have hml : (cf P Q).length = (cf Q (P % Q)).length + 1 := by rw [hc]; rfl
  refine ⟨lI ((Bm (cf Q (P % Q))).tdiv 2), ?_, ?_⟩
  · unfold fX3_sawteeth
    have e : cn - 1 = nI (cf Q (P % Q)).length := by rw [h.2.1, hml, nI_pred]
    have hb := tS_le (P := P) hl.2.1 hl.2.2 (Q - 1) (by omega)
    have hs := saw_main h.1
    have hB : big (Bm (cf Q (P % Q))) := by
      generalize Bm (cf Q (P % Q)) = B at *
      have h1 : -3000000000000000 ≤ (Q : Int) * B := by omega
      have h2 : (Q : Int) * B ≤ 3000000000000000 := by omega
      refine ⟨?_, ?_⟩
      · rcases Int.le_total 0 B with h3 | h3
        · omega
        · have : (Q : Int) * B ≤ B := by
            have := Int.mul_nonneg (by omega : 0 ≤ (Q : Int) - 1) (by omega : 0 ≤ -B)
            have e9 : ((Q : Int) - 1) * -B = B - Q * B := by grind
            omega
          omega
      · rcases Int.le_total 0 B with h3 | h3
        · have : B ≤ (Q : Int) * B := by
            have := Int.mul_nonneg (by omega : 0 ≤ (Q : Int) - 1) h3
            have e9 : ((Q : Int) - 1) * B = Q * B - B := by grind
            omega
          omega
        · omega
    have hr : (P : Int) - ((P / Q : Nat) : Int) * Q = cK (cf Q (P % Q)) := by
      rw [cf_cK hcop]
      have := Nat.div_add_mod P Q
      have h9 : (Q : Int) * ((P / Q : Nat) : Int) + ((P % Q : Nat) : Int) = P := by exact_mod_cast this
      rw [Int.mul_comm] at h9
      omega
    rw [nm_x, e, lI0]
    exact csaw_loop h hc hB (cf_cH hcop) hr (cf Q (P % Q)).length 0 FU (by omega) (by rw [FU_pos]; omega)
  · unfold fX4_sawteeth
    have := msaw_loop h.1 0 (Q - 1) 0 FU (by omega) (by rw [FU_pos]; omega)
    rw [Nat.zero_mul, Nat.zero_mod] at this
    exact this

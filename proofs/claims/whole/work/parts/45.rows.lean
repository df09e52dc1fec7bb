/-! row, place -/
def ROk (mo : Nat → Int32) : Prop := ∀ k, k ≤ 200 → mo k = iI (mM k)
theorem i32_rt (x : Int32) : x.toInt64.toInt32 = x := by
  obtain ⟨z, hz, rfl⟩ := iI_of x
  rw [iI_l hz, lI_i]
theorem inside_loop {mo : Nat → Int32} (hR : ROk mo) {n p q : Nat} (hn : n ≤ 200) (hp : 0 < p) (hpq : p ≤ q) (hq : q ≤ 100000) : ∀ (d k i fu : Nat) (x : Int64), k + d = n → d < fu → i ≤ k → x.toInt32 = iI (si (fun e => mu (e + 1) * (fS (n / (e + 1)) p (p - 1) q : Int)) k) → fX2_countInside_L9 mo fu (nI n) (nI p) (nI q) x (nI (k + 1)) (nI i) = some (nI (cI0 n p q)) := by
  intro d
  induction d using Nat.strongRecOn with
  | ind d ih =>
    intro k i fu x hk hf hi hx
    obtain ⟨fu, rfl⟩ : ∃ g, fu = g + 1 := ⟨fu - 1, by omega⟩
    show fX2_countInside_B9 (fX2_countInside_L9 mo fu) mo _ _ _ _ _ _ = _
    unfold fX2_countInside_B9
    have n200 : (200 : Int32) = nI 200 := by decide
    by_cases h0 : d = 0
    · have hkn : k = n := by omega
      subst hkn
      have e : some x.toInt32 = some (nI (cI0 k p q)) := by rw [hx, ← cI0_eq hp hpq, nI_iI]
      by_cases hc : (200 : Int32) ≤ nI i
      · rw [if_pos hc]; exact e
      · rw [if_neg hc, if_pos (nI_lt (by omega) (by omega))]; exact e
    · have hkn : k + 1 ≤ n := by omega
      have hq0 : 0 < n / (k + 1) := Nat.div_pos hkn (by omega)
      have hqn : n / (k + 1) ≤ n := Nat.div_le_self _ _
      have hq1 : (k + 1) * (n / (k + 1)) ≤ n := Nat.mul_div_le n (k + 1)
      have hl1 : k + 1 ≤ n / (n / (k + 1)) := (Nat.le_div_iff_mul_le hq0).mpr hq1
      have hl2 : n / (n / (k + 1)) ≤ n := Nat.div_le_self _ _
      have hst := stretch n (fun w => (fS w p (p - 1) q : Int)) (n / (k + 1)) (a := k) (n / (n / (k + 1))) (by omega) (fun e h1 h2 => by
        have a1 : n / (e + 1) ≤ n / (k + 1) := Nat.div_le_div_left (by omega) (by omega)
        have a2 : n / (k + 1) ≤ n / (e + 1) := by
          rw [Nat.le_div_iff_mul_le (by omega)]
          have := Nat.mul_le_mul_right (n / (k + 1)) (by omega : e + 1 ≤ n / (n / (k + 1)))
          have h3 : n / (n / (k + 1)) * (n / (k + 1)) ≤ n := Nat.div_mul_le_self _ _
          rw [Nat.mul_comm]
          omega
        omega)
      rw [n200, if_neg (nI_ge (by omega) (by omega)), if_neg (nI_nlt (by omega) (by omega)), ckZ_n (by omega) (by omega), nm_x, pk_div (by omega) (by omega) (by omega), if_neg (nI_nle hq0 (by omega)), ckZ_n hq0 (by omega), pk_div (by omega) hq0 (by omega)]
      unfold fX2_countInside_J42
      generalize n / (k + 1) = w at *
      generalize n / w = la at *
      have ep : nI p - 1 = nI (p - 1) := by rw [nI1, pk_sub hp]
      rw [nI_pred, ck_in (by omega) (by decide), ck_in (by omega) (by decide), ep, nI_L (by omega), nI_L (by omega), nI_L (by omega), nI_L (by omega), bd1_e (sumOfFloors_ok (by omega) (by omega) (by omega) (by omega) (by omega)), nm_x, nm_x, nm_x, nI_clamp (by omega), nI_clamp (by omega), nI_1, nI_1]
      refine ih (n - la) (by omega) la (i + 1) fu _ (by omega) (by omega) (by omega) ?_
      rw [Int64.toInt32_add, Int64.toInt32_mul, i32_rt, hx, hR la (by omega), hR k (by omega), lI_i, iI_sub, iI_mul, iI_add, hst]
theorem countInside_ok {mo : Nat → Int32} (hR : ROk mo) {n p q : Nat} (hn : n ≤ 200) (hp : 0 < p) (hpq : p ≤ q) (hq : q ≤ 100000) : fX2_countInside mo (nI n) (nI p) (nI q) = some (nI (cI0 n p q)) := inside_loop hR hn hp hpq hq n 0 0 FU 0 (by omega) (by rw [FU_pos]; omega) (by omega) (show Int64.toInt32 0 = iI 0 from by decide)
def cAll (n : Nat) : Nat := cI0 n 1 1 + 2
def cBel (n p q : Nat) : Nat := if p = 0 then 0 else if p ≤ q then cI0 n p q + 1 else cAll n
theorem countAll_ok {mo : Nat → Int32} (hR : ROk mo) {n : Nat} (hn : n ≤ 200) : fX2_countAll mo (nI n) = some (nI (cAll n)) := by
  unfold fX2_countAll
  have := countInside_ok hR (n := n) (p := 1) (q := 1) hn (by omega) (by omega) (by omega)
  rw [bd1_e (show fX2_countInside mo (nI n) 1 1 = _ from this), nI2, nI_add]
  rfl
theorem countBelow_ok {mo : Nat → Int32} (hR : ROk mo) {n p q : Nat} (hn : n ≤ 200) (hp : p ≤ 100000) (hq : q ≤ 100000) : fX2_countBelow mo (nI n) (nI p) (nI q) = some (nI (cBel n p q)) := by
  unfold fX2_countBelow cBel
  by_cases h0 : p = 0
  · subst h0; rw [if_pos (by decide), if_pos rfl]; rfl
  · rw [if_neg (nI_ne0 (by omega) (by omega)), if_neg h0]
    by_cases h1 : p ≤ q
    · rw [if_pos (nI_le h1 (by omega)), if_pos h1, bd1_e (countInside_ok hR hn (by omega) h1 hq), nI_1]
    · rw [if_neg (nI_ge (by omega) (by omega)), if_neg h1, bd1_e (countAll_ok hR hn)]
/-- the reference's row -/
def gR1 (b : Nat) : Nat → Nat := sm (fun a => if Nat.gcd (a + 1) (b + 1) = 1 then 1 else 0)
def gRow (n : Nat) : Nat := 1 + sm (fun b => gR1 b (b + 1)) n
theorem gRow_eq {n : Nat} (hn : 1 ≤ n) : gRow n = cAll n := by
  unfold gRow cAll cI0 gR1
  have e : ∀ b, b < n → sm (fun a => if Nat.gcd (a + 1) (b + 1) = 1 then 1 else 0) (b + 1) = sm (fun a => if (a + 1) * 1 < 1 * (b + 1) ∧ Nat.gcd (a + 1) (b + 1) = 1 then 1 else 0) (b + 1) + (if b = 0 then 1 else 0) := fun b _ => by
    show sm (fun a => if Nat.gcd (a + 1) (b + 1) = 1 then 1 else 0) b + (if Nat.gcd (b + 1) (b + 1) = 1 then 1 else 0) = sm (fun a => if (a + 1) * 1 < 1 * (b + 1) ∧ Nat.gcd (a + 1) (b + 1) = 1 then 1 else 0) b + (if (b + 1) * 1 < 1 * (b + 1) ∧ Nat.gcd (b + 1) (b + 1) = 1 then 1 else 0) + (if b = 0 then 1 else 0)
    rw [sm_congr (g := fun a => if (a + 1) * 1 < 1 * (b + 1) ∧ Nat.gcd (a + 1) (b + 1) = 1 then 1 else 0) b (fun a ha => by
      by_cases hg : Nat.gcd (a + 1) (b + 1) = 1
      · rw [if_pos hg, if_pos ⟨by omega, hg⟩]
      · rw [if_neg hg, if_neg (fun hh => hg hh.2)])]
    have hs : Nat.gcd (b + 1) (b + 1) = b + 1 := Nat.gcd_self _
    rw [if_neg (fun hh => by have := hh.1; omega : ¬ ((b + 1) * 1 < 1 * (b + 1) ∧ Nat.gcd (b + 1) (b + 1) = 1))]
    by_cases hb : b = 0
    · rw [if_pos (by rw [hs]; omega), if_pos hb]
    · rw [if_neg (by rw [hs]; omega), if_neg hb]
  rw [sm_congr n e, sm_add]
  have h1 : sm (fun b => if b = 0 then 1 else 0) n = 1 := by
    obtain ⟨t, rfl⟩ : ∃ t, n = t + 1 := ⟨n - 1, by omega⟩
    rw [sm_front, sm_congr (g := fun _ => 0) t (fun i _ => if_neg (by omega)), sm_zero]; rfl
  omega
theorem mrow_in {b n : Nat} (hb : b < 200) (K : Int32 → Int32 → Int32 → Int32 → Option (Int32 × Int32)) (c : Nat) : ∀ (d a fu : Nat), a + d = b + 1 → d < fu → fX4_row_L31 K fu 0 (nI n) (nI (c + gR1 b a)) (nI (b + 1)) (nI (a + 1)) = K 0 (nI n) (nI (c + gR1 b (b + 1))) (nI (b + 1 + 1)) := by
  intro d
  induction d with
  | zero =>
    intro a fu ha hf
    obtain ⟨fu, rfl⟩ : ∃ g, fu = g + 1 := ⟨fu - 1, by omega⟩
    have : a = b + 1 := by omega
    subst this
    show fX4_row_B31 K (fX4_row_L31 K fu) 0 _ _ _ _ = _
    unfold fX4_row_B31
    rw [if_pos (nI_lt (by omega) (by omega)), nm_x, nI_1]
  | succ d ih =>
    intro a fu ha hf
    obtain ⟨fu, rfl⟩ : ∃ g, fu = g + 1 := ⟨fu - 1, by omega⟩
    show fX4_row_B31 K (fX4_row_L31 K fu) 0 _ _ _ _ = _
    unfold fX4_row_B31 fX4_row_J57
    have hg : Nat.gcd (a + 1) (b + 1) ≤ b + 1 := Nat.gcd_le_right _ (by omega)
    have e : gR1 b (a + 1) = gR1 b a + (if Nat.gcd (a + 1) (b + 1) = 1 then 1 else 0) := rfl
    have := ih (a + 1) fu (by omega) (by omega)
    rw [if_neg (nI_nlt (by omega) (by omega)), nI_L (by omega), nI_L (by omega), bd1_e (common_ok (by omega) (by omega)), lI1, nm_x, nm_x, nI_1, nI_1]
    by_cases h1 : Nat.gcd (a + 1) (b + 1) = 1
    · rw [if_pos ((lc_eq ⟨by omega, by omega⟩ ⟨by omega, by omega⟩).mpr (by omega))]
      rw [if_pos h1] at e
      rw [e] at this
      exact this
    · rw [if_neg (fun hh => h1 (by have := (lc_eq ⟨by omega, by omega⟩ ⟨by omega, by omega⟩).mp hh; omega))]
      rw [if_neg h1, Nat.add_zero] at e
      rw [e] at this
      exact this
theorem mrow_loop {n : Nat} (hn : n ≤ 200) : ∀ (d b fu : Nat), b + d = n → d < fu → fX4_row_L23 fu 0 (nI n) (nI (gRow b)) (nI (b + 1)) = some (nI (gRow n), 0) := by
  intro d
  induction d with
  | zero =>
    intro b fu hb hf
    obtain ⟨fu, rfl⟩ : ∃ g, fu = g + 1 := ⟨fu - 1, by omega⟩
    have : b = n := by omega
    subst this
    show fX4_row_B23 _ 0 _ _ _ = _
    unfold fX4_row_B23
    rw [if_pos (nI_lt (by omega) (by omega))]
  | succ d ih =>
    intro b fu hb hf
    obtain ⟨fu, rfl⟩ : ∃ g, fu = g + 1 := ⟨fu - 1, by omega⟩
    show fX4_row_B23 (fX4_row_L23 fu) 0 _ _ _ = _
    unfold fX4_row_B23
    have h1 := mrow_in (b := b) (n := n) (by omega) (fX4_row_L23 fu) (gRow b) (b + 1) 0 FU (by omega) (by rw [FU_pos]; omega)
    have e0 : gRow b + gR1 b 0 = gRow b := rfl
    have e1 : gRow b + gR1 b (b + 1) = gRow (b + 1) := by
      show 1 + sm (fun b => gR1 b (b + 1)) b + gR1 b (b + 1) = 1 + (sm (fun b => gR1 b (b + 1)) b + gR1 b (b + 1))
      omega
    rw [e0, e1] at h1
    rw [if_neg (nI_nlt (by omega) (by omega))]
    exact h1.trans (ih (b + 1) fu (by omega) (by omega))
theorem mrow_ok {n : Nat} (hn : 1 ≤ n) (hn2 : n ≤ 200) (mth : Int32) : fX4_row mth (nI n) = some (nI (cAll n), 0) := by
  unfold fX4_row
  have w3 : fX4_in (nI n).toInt64 1 200 = some 1 := by rw [nI_L (by omega), lI1, lI200]; exact in_y ⟨by omega, by omega⟩ ⟨by omega, by omega⟩ ⟨by omega, by omega⟩ (by omega)
  rw [bd1_e w3, if_neg (by decide), ← gRow_eq hn]
  exact mrow_loop hn2 n 0 FU (by omega) (by rw [FU_pos]; omega)
theorem mrow_no {y : Int} (hy : mid y) (h : ¬ (1 ≤ y ∧ y ≤ 200)) (mth : Int32) : fX4_row mth (iI y) = some (-1, 0) := by
  unfold fX4_row
  have w3 : fX4_in (iI y).toInt64 1 200 = some 0 := by rw [iI_l hy, lI1, lI200]; exact in_n (mid_big hy) ⟨by omega, by omega⟩ ⟨by omega, by omega⟩ h
  rw [bd1_e w3, if_pos rfl]
theorem i200 : (200 : Int32) = iI 200 := by decide
theorem op_row {mo : Nat → Int32} (hR : ROk mo) (mth n : Int32) : ∃ r, fX3_row mo n = some r ∧ fX4_row mth n = some (r, 0) := by
  obtain ⟨y, hy, rfl⟩ := iI_of n
  unfold fX3_row
  by_cases hn : 1 ≤ y ∧ y ≤ 200
  · have w2 : fX3_isWithin (iI y) 1 200 = some 1 := by rw [iI1, i200]; exact wi_y hy ⟨by omega, by omega⟩ ⟨by omega, by omega⟩ hn
    obtain ⟨k, hk, hky⟩ := iI_nat (by omega : 0 ≤ y)
    rw [bd1_e w2, if_neg (by decide), hky, bd1_e (countAll_ok hR (by omega)), mrow_ok (by omega) (by omega)]
    exact ⟨_, rfl, rfl⟩
  · have w2 : fX3_isWithin (iI y) 1 200 = some 0 := by rw [iI1, i200]; exact wi_n hy ⟨by omega, by omega⟩ ⟨by omega, by omega⟩ hn
    rw [bd1_e w2, if_pos rfl, mrow_no hy hn]
    exact ⟨_, rfl, rfl⟩
/-- the reference's place -/
def gP1 (P Q b : Nat) : Nat → Nat := sm (fun a => if (a + 1) * Q < P * (b + 1) ∧ Nat.gcd (a + 1) (b + 1) = 1 then 1 else 0)
theorem mplace_in {P Q b n : Nat} (hI : Inv P Q) (hb : b < 200) (K : Int32 → Int32 → Int32 → Int32 → Option (Int32 × Int32)) (c : Nat) : ∀ (d a fu : Nat), a + d = b + 1 → d < fu → fX4_place_L42 K (nI P) (nI Q) fu 0 (nI n) (nI (c + gP1 P Q b a)) (nI (b + 1)) (nI (a + 1)) = K 0 (nI n) (nI (c + gP1 P Q b (b + 1))) (nI (b + 1 + 1)) := by
  have hlim := hI.2
  intro d
  induction d with
  | zero =>
    intro a fu ha hf
    obtain ⟨fu, rfl⟩ : ∃ g, fu = g + 1 := ⟨fu - 1, by omega⟩
    have : a = b + 1 := by omega
    subst this
    show fX4_place_B42 K (fX4_place_L42 K (nI P) (nI Q) fu) (nI P) (nI Q) 0 _ _ _ _ = _
    unfold fX4_place_B42
    rw [if_pos (nI_lt (by omega) (by omega)), nm_x, nI_1]
  | succ d ih =>
    intro a fu ha hf
    obtain ⟨fu, rfl⟩ : ∃ g, fu = g + 1 := ⟨fu - 1, by omega⟩
    show fX4_place_B42 K (fX4_place_L42 K (nI P) (nI Q) fu) (nI P) (nI Q) 0 _ _ _ _ = _
    unfold fX4_place_B42 fX4_place_J88 fX4_place_J89
    have hg : Nat.gcd (a + 1) (b + 1) ≤ b + 1 := Nat.gcd_le_right _ (by omega)
    have e : gP1 P Q b (a + 1) = gP1 P Q b a + (if (a + 1) * Q < P * (b + 1) ∧ Nat.gcd (a + 1) (b + 1) = 1 then 1 else 0) := rfl
    have m1 := mul_big (Nat.mul_le_mul (by omega : a + 1 ≤ 200) hlim.2.2)
    have m2 := mul_big (Nat.mul_le_mul hlim.1 (by omega : b + 1 ≤ 200))
    have m3 : 0 ≤ ((a + 1 : Nat) : Int) * Q := Int.mul_nonneg (by omega) (by omega)
    have m4 : 0 ≤ (P : Int) * ((b + 1 : Nat) : Int) := Int.mul_nonneg (by omega) (by omega)
    have b1 : big (((a + 1 : Nat) : Int) * Q) := ⟨by omega, by omega⟩
    have b2 : big ((P : Int) * ((b + 1 : Nat) : Int)) := ⟨by omega, by omega⟩
    have := ih (a + 1) fu (by omega) (by omega)
    rw [if_neg (nI_nlt (by omega) (by omega)), nI_L (by omega), nI_L (by omega), nI_L (by omega), nI_L (by omega), lI_mul, lI_mul, bd1_e (common_ok (by omega) (by omega)), lI1, nm_x, nm_x, nI_1, nI_1]
    by_cases hlt : (a + 1) * Q < P * (b + 1)
    · rw [if_neg (fun hh => by
        have h9 := (lc_ge b1 b2).mp hh
        have h8 : P * (b + 1) ≤ (a + 1) * Q := by exact_mod_cast h9
        omega)]
      by_cases h1 : Nat.gcd (a + 1) (b + 1) = 1
      · rw [if_pos ((lc_eq ⟨by omega, by omega⟩ ⟨by omega, by omega⟩).mpr (by omega))]
        rw [if_pos ⟨hlt, h1⟩] at e
        rw [e] at this
        exact this
      · rw [if_neg (fun hh => h1 (by have := (lc_eq ⟨by omega, by omega⟩ ⟨by omega, by omega⟩).mp hh; omega))]
        rw [if_neg (fun hh => h1 hh.2), Nat.add_zero] at e
        rw [e] at this
        exact this
    · rw [if_pos ((lc_ge b1 b2).mpr (by
        have h8 : P * (b + 1) ≤ (a + 1) * Q := by omega
        exact_mod_cast h8))]
      rw [if_neg (fun hh => hlt hh.1), Nat.add_zero] at e
      rw [e] at this
      exact this
theorem mplace_loop {P Q n c : Nat} (hI : Inv P Q) (hn : n ≤ 200) : ∀ (d b fu : Nat), b + d = n → d < fu → fX4_place_L34 (nI P) (nI Q) fu 0 (nI n) (nI (c + sm (fun b => gP1 P Q b (b + 1)) b)) (nI (b + 1)) = some (nI (c + sm (fun b => gP1 P Q b (b + 1)) n), 0) := by
  intro d
  induction d with
  | zero =>
    intro b fu hb hf
    obtain ⟨fu, rfl⟩ : ∃ g, fu = g + 1 := ⟨fu - 1, by omega⟩
    have : b = n := by omega
    subst this
    show fX4_place_B34 _ (nI P) (nI Q) 0 _ _ _ = _
    unfold fX4_place_B34
    rw [if_pos (nI_lt (by omega) (by omega))]
  | succ d ih =>
    intro b fu hb hf
    obtain ⟨fu, rfl⟩ : ∃ g, fu = g + 1 := ⟨fu - 1, by omega⟩
    show fX4_place_B34 (fX4_place_L34 (nI P) (nI Q) fu) (nI P) (nI Q) 0 _ _ _ = _
    unfold fX4_place_B34
    have h1 := mplace_in (n := n) hI (by omega : b < 200) (fX4_place_L34 (nI P) (nI Q) fu) (c + sm (fun b => gP1 P Q b (b + 1)) b) (b + 1) 0 FU (by omega) (by rw [FU_pos]; omega)
    have e1 : c + sm (fun b => gP1 P Q b (b + 1)) b + gP1 P Q b (b + 1) = c + sm (fun b => gP1 P Q b (b + 1)) (b + 1) := by
      show _ = c + (sm (fun b => gP1 P Q b (b + 1)) b + gP1 P Q b (b + 1))
      omega
    rw [e1] at h1
    rw [if_neg (nI_nlt (by omega) (by omega))]
    exact h1.trans (ih (b + 1) fu (by omega) (by omega))
theorem gP_eq {P Q n : Nat} (hn : 1 ≤ n) : (if P = 0 then 0 else 1) + sm (fun b => gP1 P Q b (b + 1)) n = cBel n P Q := by
  unfold cBel
  by_cases h0 : P = 0
  · subst h0
    rw [if_pos rfl, if_pos rfl, sm_congr (g := fun _ => 0) n (fun b _ => by
      unfold gP1
      rw [sm_congr (g := fun _ => 0) (b + 1) (fun a _ => if_neg (fun hh => by have := hh.1; omega)), sm_zero]), sm_zero]
  · rw [if_neg h0, if_neg h0]
    by_cases h1 : P ≤ Q
    · rw [if_pos h1]
      unfold cI0 gP1
      omega
    · rw [if_neg h1, ← gRow_eq hn]
      unfold gRow
      congr 1
      refine sm_congr n (fun b _ => ?_)
      unfold gP1 gR1
      refine sm_congr (b + 1) (fun a ha => ?_)
      have h2 : (a + 1) * Q < P * (b + 1) := by
        have a1 : (a + 1) * Q ≤ (b + 1) * Q := Nat.mul_le_mul_right _ (by omega)
        have a2 : (b + 1) * Q < (b + 1) * P := Nat.mul_lt_mul_of_pos_left (by omega) (by omega)
        rw [Nat.mul_comm P]
        omega
      by_cases hg : Nat.gcd (a + 1) (b + 1) = 1
      · rw [if_pos ⟨h2, hg⟩, if_pos hg]
      · rw [if_neg (fun hh => hg hh.2), if_neg hg]
theorem op_place {P Q : Nat} {qs ts bs : Nat → Int32} {cn : Int32} (h : SOk P Q qs ts bs cn) {mo : Nat → Int32} (hR : ROk mo) (mth n : Int32) : ∃ r, fX3_place ts bs cn mo n = some r ∧ fX4_place (nI P) (nI Q) mth n = some (r, 0) := by
  have hlim := h.1.2
  obtain ⟨y, hy, rfl⟩ := iI_of n
  unfold fX3_place fX4_place
  by_cases hn : 1 ≤ y ∧ y ≤ 200
  · have w2 : fX3_isWithin (iI y) 1 200 = some 1 := by rw [iI1, i200]; exact wi_y hy ⟨by omega, by omega⟩ ⟨by omega, by omega⟩ hn
    have w3 : fX4_in (iI y).toInt64 1 200 = some 1 := by rw [iI_l hy, lI1, lI200]; exact in_y (mid_big hy) ⟨by omega, by omega⟩ ⟨by omega, by omega⟩ hn
    obtain ⟨k, hk, hky⟩ := iI_nat (by omega : 0 ≤ y)
    rw [bd1_e w2, if_neg (by decide), bd1_e w3, if_neg (by decide), bd1_e h.top, bd1_e h.bottom, hky, bd1_e (countBelow_ok hR (by omega) (by omega) (by omega))]
    have hp := fun c => mplace_loop (c := c) h.1 (by omega : k ≤ 200) k 0 FU (by omega) (by rw [FU_pos]; omega)
    have he := gP_eq (P := P) (Q := Q) (n := k) (by omega)
    refine ⟨_, rfl, ?_⟩
    unfold fX4_place_J31
    by_cases h0 : P = 0
    · rw [if_pos h0] at he
      rw [if_pos (by rw [h0]; decide), ← he]
      exact hp 0
    · rw [if_neg h0] at he
      rw [if_neg (nI_nle (by omega) (by omega)), ← he]
      exact hp 1
  · have w2 : fX3_isWithin (iI y) 1 200 = some 0 := by rw [iI1, i200]; exact wi_n hy ⟨by omega, by omega⟩ ⟨by omega, by omega⟩ hn
    have w3 : fX4_in (iI y).toInt64 1 200 = some 0 := by rw [iI_l hy, lI1, lI200]; exact in_n (mid_big hy) ⟨by omega, by omega⟩ ⟨by omega, by omega⟩ hn
    rw [bd1_e w2, if_pos rfl, bd1_e w3, if_pos rfl]
    exact ⟨_, rfl, rfl⟩

/-! near: the reference whole; the class -/
theorem mnear_end {P Q n u v z w way what : Nat} (hN : NOk P Q n u v z w) (hI : Inv P Q) (hn : n ≤ 1000) (hz : z ≤ 1000000000) (hu : u ≤ 1000000000) (hway : way ≤ 2) (hwhat : what ≤ 1) (K : Int32 → Int32 → Int32 → Int32 → Int64 → Int64 → Int64 → Int64 → Int64 → Option (Int32 × Int32)) : (lowN P Q u v z w way → fX4_near_B67 K (nI P) (nI Q) 0 (nI n) (nI way) (nI what) (lI u) (lI v) (lI z) (lI w) (lI ((n + 1 : Nat) : Int)) = some (if what = 0 then nI u else nI v, 0)) ∧ (¬ lowN P Q u v z w way → fX4_near_B67 K (nI P) (nI Q) 0 (nI n) (nI way) (nI what) (lI u) (lI v) (lI z) (lI w) (lI ((n + 1 : Nat) : Int)) = some (if what = 0 then nI z else nI w, 0)) := by
  have hlim := hI.2
  have hv2 := hN.2.1
  have hw2 := hN.2.2.2.1
  have hJ1 : fX4_near_J266 (nI P) (nI Q) 0 (nI what) (lI u) (lI v) (lI z) (lI w) = some (if what = 0 then nI u else nI v, 0) := by
    unfold fX4_near_J266 fX4_near_J271
    rcases (by omega : what = 0 ∨ what = 1) with rfl | rfl
    · rw [if_pos (by decide), if_neg (by decide), if_pos rfl, lI_i, nI_iI]
    · rw [if_neg (by decide), if_neg (by decide), if_neg (by decide), lI_i, nI_iI]
  have hJ0 : fX4_near_J270 (nI P) (nI Q) 0 (nI what) (lI u) (lI v) (lI z) (lI w) = some (if what = 0 then nI z else nI w, 0) := by
    unfold fX4_near_J270 fX4_near_J271
    rcases (by omega : what = 0 ∨ what = 1) with rfl | rfl
    · rw [if_pos (by decide), if_pos rfl, if_pos rfl, lI_i, nI_iI]
    · rw [if_neg (by decide), if_pos rfl, if_neg (by decide), lI_i, nI_iI]
  have hbeg : fX4_near_B67 K (nI P) (nI Q) 0 (nI n) (nI way) (nI what) (lI u) (lI v) (lI z) (lI w) (lI ((n + 1 : Nat) : Int)) = if nI way = 0 then some (if what = 0 then nI u else nI v, 0) else if nI way = 2 then (if lg_cmp (lI (((P : Int) * v - u * Q) * w)) (lI (((z : Int) * Q - P * w) * v)) < 0 then some (if what = 0 then nI u else nI v, 0) else if lg_cmp (lI (((P : Int) * v - u * Q) * w)) (lI (((z : Int) * Q - P * w) * v)) = 0 then (if 0 < lg_cmp (lI v) (lI w) then some (if what = 0 then nI z else nI w, 0) else some (if what = 0 then nI u else nI v, 0)) else some (if what = 0 then nI z else nI w, 0)) else some (if what = 0 then nI z else nI w, 0) := by
    unfold fX4_near_B67
    rw [nI_L (by omega), nI_L (by omega), nI_L (by omega), if_pos ((lc_gt ⟨by omega, by omega⟩ ⟨by omega, by omega⟩).mpr (by omega)), nm_x, nm_x, lI_mul, lI_mul, lI_sub, lI_mul, lI_mul, lI_mul, lI_sub, lI_mul, hJ1, hJ0]
  rw [hbeg]
  have hc := low_cmp hN hI hn hz hu (some (if what = 0 then nI u else nI v, (0 : Int32))) (some (if what = 0 then nI z else nI w, (0 : Int32))) _ _ (0 < lg_cmp (lI v) (lI w)) (by rw [lc_gt ⟨by omega, by omega⟩ ⟨by omega, by omega⟩]; omega) rfl rfl
  unfold lowN
  rcases (by omega : way = 0 ∨ way = 1 ∨ way = 2) with rfl | rfl | rfl
  · rw [if_pos (by decide)]
    exact ⟨fun _ => rfl, fun h => absurd (Or.inl rfl) h⟩
  · rw [if_neg (by decide), if_neg (by decide)]
    refine ⟨fun h => ?_, fun _ => rfl⟩
    rcases h with h | h
    · omega
    · omega
  · rw [if_neg (by decide), if_pos (by decide)]
    refine ⟨fun h => ?_, fun h => ?_⟩
    · rcases h with h | h
      · omega
      · exact hc.1 h.2
    · exact hc.2 (fun h9 => h (Or.inr ⟨rfl, h9⟩))
theorem mnear_loop {P Q n u v z w way what : Nat} (hN : NOk P Q n u v z w) (hI : Inv P Q) (hn : n ≤ 1000) (hway : way ≤ 2) (hwhat : what ≤ 1) : ∀ (e k fu a b c d : Nat), k + e = n → e < fu → nLw u v k a b → nUp z w k c d → (lowN P Q u v z w way → fX4_near_L67 (nI P) (nI Q) fu 0 (nI n) (nI way) (nI what) (lI a) (lI b) (lI c) (lI d) (lI ((k + 1 : Nat) : Int)) = some (if what = 0 then nI u else nI v, 0)) ∧ (¬ lowN P Q u v z w way → fX4_near_L67 (nI P) (nI Q) fu 0 (nI n) (nI way) (nI what) (lI a) (lI b) (lI c) (lI d) (lI ((k + 1 : Nat) : Int)) = some (if what = 0 then nI z else nI w, 0)) := by
  intro e
  induction e with
  | zero =>
    intro k fu a b c d hk hf h1 h2
    obtain ⟨fu, rfl⟩ : ∃ g, fu = g + 1 := ⟨fu - 1, by omega⟩
    have hkn : k = n := by omega
    subst hkn
    have ha : a = u ∧ b = v := by
      rcases h1.2.2 with ⟨q, -⟩ | ⟨-, q⟩
      · have := hN.2.1; omega
      · exact q
    have hc : c = z ∧ d = w := by
      rcases h2.2.2 with ⟨q, -⟩ | ⟨-, q⟩
      · have := hN.2.2.2.1; omega
      · exact q
    obtain ⟨rfl, rfl⟩ := ha
    obtain ⟨rfl, rfl⟩ := hc
    exact mnear_end hN hI hn h2.1 h1.1 hway hwhat (fX4_near_L67 (nI P) (nI Q) fu)
  | succ e ih =>
    intro k fu a b c d hk hf h1 h2
    obtain ⟨fu, rfl⟩ : ∃ g, fu = g + 1 := ⟨fu - 1, by omega⟩
    obtain ⟨a', b', c', d', g1, g2, g3⟩ := mnear_step hN hI hn (fX4_near_L67 (nI P) (nI Q) fu) (nI way) (nI what) (by omega) h1 h2
    have e1 : fX4_near_L67 (nI P) (nI Q) (fu + 1) 0 (nI n) (nI way) (nI what) (lI a) (lI b) (lI c) (lI d) (lI ((k + 1 : Nat) : Int)) = fX4_near_L67 (nI P) (nI Q) fu 0 (nI n) (nI way) (nI what) (lI a') (lI b') (lI c') (lI d') (lI ((k + 1 + 1 : Nat) : Int)) := g3
    rw [e1]
    exact ih (k + 1) fu a' b' c' d' (by omega) (by omega) g1 g2
theorem mnear_ok {P Q n u v z w way what : Nat} (hN : NOk P Q n u v z w) (hI : Inv P Q) (hn : n ≤ 1000) (hway : way ≤ 2) (hwhat : what ≤ 1) : (lowN P Q u v z w way → fX4_near_L67 (nI P) (nI Q) FU 0 (nI n) (nI way) (nI what) 0 0 0 0 1 = some (if what = 0 then nI u else nI v, 0)) ∧ (¬ lowN P Q u v z w way → fX4_near_L67 (nI P) (nI Q) FU 0 (nI n) (nI way) (nI what) 0 0 0 0 1 = some (if what = 0 then nI z else nI w, 0)) := by
  have := mnear_loop hN hI hn hway hwhat n 0 FU 0 0 0 0 (by omega) (by rw [FU_pos]; omega) ⟨by omega, by omega, Or.inl ⟨hN.1, Or.inl rfl⟩⟩ ⟨by omega, by omega, Or.inl ⟨hN.2.2.1, Or.inl rfl⟩⟩
  exact this
/-- the numbers of the neighbours stay small -/
theorem NOk.small {P Q n u v z w : Nat} (hN : NOk P Q n u v z w) (hI : Inv P Q) (hn : n ≤ 1000) : u ≤ 1000000000 ∧ z ≤ 1000000000 := by
  have hlim := hI.2
  obtain ⟨hv, hv2, hw, hw2, hl, hu, -, -, -, hmin⟩ := hN
  refine ⟨?_, ?_⟩
  · have h1 : u * Q ≤ 100000 * 1000 := Nat.le_trans hl (Nat.mul_le_mul hlim.1 (by omega))
    have := Nat.le_mul_of_pos_right u hlim.2.1
    omega
  · have h2 := hmin (P * w + 1) w hw hw2 (by
      have := Nat.le_mul_of_pos_right (P * w) hlim.2.1
      rw [Nat.add_mul, Nat.one_mul]; omega)
    have h3 := Nat.le_of_mul_le_mul_right h2 hw
    have h4 := Nat.mul_le_mul hlim.1 (by omega : w ≤ 1000)
    omega
theorem last_loop {l : List Nat} {qs ts bs : Nat → Int32} {cn : Int32} (h : EOk l qs ts bs cn) {n : Nat} (hn : n ≤ 1000) (hb : ∀ i, 1 ≤ i → i ≤ l.length → cK (l.take i) ≤ 100000) : ∀ (d i fu a : Nat), i + d = l.length + 1 → d < fu → 1 ≤ a → a < i → a ≤ l.length → cK (l.take a) ≤ n → (∀ j, a < j → j < i → n < cK (l.take j)) → ∃ a', fX0_lastWithin_L4 bs cn fu (nI n) (nI a) (nI i) = some (nI a') ∧ 1 ≤ a' ∧ a' ≤ l.length ∧ cK (l.take a') ≤ n ∧ ∀ j, a' < j → j ≤ l.length → n < cK (l.take j) := by
  have hl := h.2.1
  intro d
  induction d with
  | zero =>
    intro i fu a hi hf ha hai hal hk hj
    obtain ⟨fu, rfl⟩ : ∃ g, fu = g + 1 := ⟨fu - 1, by omega⟩
    refine ⟨a, ?_, ha, hal, hk, fun j h1 h2 => hj j h1 (by omega)⟩
    show fX0_lastWithin_B4 _ bs cn _ _ _ = _
    unfold fX0_lastWithin_B4
    rw [h.1, if_pos (nI_lt (by omega) (by omega))]
  | succ d ih =>
    intro i fu a hi hf ha hai hal hk hj
    obtain ⟨fu, rfl⟩ : ∃ g, fu = g + 1 := ⟨fu - 1, by omega⟩
    have hbi := hb i (by omega) (by omega)
    have n1 : ¬ cn < nI i := by rw [h.1]; exact nI_nlt (by omega) (by omega)
    have hbeg : fX0_lastWithin_L4 bs cn (fu + 1) (nI n) (nI a) (nI i) = if nI n < nI (cK (l.take i)) then fX0_lastWithin_L4 bs cn fu (nI n) (nI a) (nI (i + 1)) else fX0_lastWithin_L4 bs cn fu (nI n) (nI i) (nI (i + 1)) := by
      show fX0_lastWithin_B4 (fX0_lastWithin_L4 bs cn fu) bs cn _ _ _ = _
      unfold fX0_lastWithin_B4 fX0_lastWithin_J24
      rw [if_neg n1, ck_in (by omega) (by decide), nI_clamp (by omega), (h.2.2.2 i (by omega)).2, nm_x, nm_x, nI_1]
    rw [hbeg]
    rcases Nat.lt_or_ge n (cK (l.take i)) with hc | hc
    · rw [if_pos (nI_lt hc (by omega))]
      exact ih (i + 1) fu a (by omega) (by omega) ha (by omega) hal hk (fun j h1 h2 => by
        rcases Nat.lt_or_ge j i with h3 | h3
        · exact hj j h1 h3
        · have : j = i := by omega
          rw [this]; exact hc)
    · rw [if_neg (nI_nlt hc (by omega))]
      exact ih (i + 1) fu i (by omega) (by omega) (by omega) (by omega) (by omega) hc (fun j h1 h2 => by omega)

/-! sumOfFloors, floors -/
theorem floors_loop : ∀ (m fu n a b i : Nat) (acc : Int), m ≤ 100000 → n ≤ 100000 → a ≤ 100000 → b ≤ 100000 → i + (cf a m).length ≤ 64 → (cf a m).length < fu → (m = 0 → True) → fX3_sumOfFloors_L6 fu (lI n) (lI a) (lI b) (lI m) (lI acc) (nI i) = some (lI (acc + if m = 0 then 0 else (fS n a b m : Int))) := by
  intro m
  induction m using Nat.strongRecOn with
  | ind m ih =>
    intro fu n a b i acc hm hn ha hb hi hf _
    obtain ⟨fu, rfl⟩ : ∃ g, fu = g + 1 := ⟨fu - 1, by omega⟩
    show fX3_sumOfFloors_B6 (fX3_sumOfFloors_L6 fu) _ _ _ _ _ _ = _
    unfold fX3_sumOfFloors_B6
    have n64 : (64 : Int32) = nI 64 := by decide
    by_cases h0 : m = 0
    · subst h0
      rw [if_pos rfl, Int.add_zero]
      by_cases hc : (64 : Int32) ≤ nI i
      · rw [if_pos hc]
      · rw [if_neg hc, if_pos (by decide)]
    · have h0 : 0 < m := by omega
      have e := cf_pos a h0
      rw [e, List.length_cons] at hi hf
      have hml := Nat.mod_lt a h0
      have hbl := Nat.mod_lt b h0
      have r1 : a % m * n ≤ 10000000000 := mul_le_1e10 (by omega) hn
      have rn : (n : Int) * ((n : Int) - 1) = 2 * (sm (fun i => i) n : Int) := by
        have := sm_id n
        rcases Nat.eq_zero_or_pos n with hz | hz
        · subst hz; rfl
        · have h9 : ((2 * sm (fun i => i) n : Nat) : Int) = ((n * (n - 1) : Nat) : Int) := by rw [this]
          push_cast [Int.natCast_sub hz] at h9
          omega
      have hsm : (sm (fun i => i) n) ≤ 10000000000 := by
        have := sm_id n
        have h8 : n * (n - 1) ≤ n * n := Nat.mul_le_mul_left _ (by omega)
        have h7 := mul_le_1e10 hn hn
        omega
      have rn2 : (n : Int) * ((n : Int) - 1) / 2 = (sm (fun i => i) n : Int) := by rw [rn]; omega
      have q0 : ¬ (64 : Int32) ≤ nI i := by rw [n64]; exact nI_ge (by omega) (by omega)
      have q1 : ¬ lg_cmp (lI m) 0 ≤ 0 := by rw [lI0]; exact fun hh => by have := (lc_le ⟨by omega, by omega⟩ ⟨by omega, by omega⟩).mp hh; omega
      have bm : big (m : Int) := ⟨by omega, by omega⟩
      have ck : ∀ k : Option Int64, ckL (lI m) k = k := fun k => ckL_n (by omega) bm
      have ck2 : ∀ k : Option Int64, ckL (2 : Int64) k = k := fun k => by rw [lI2]; exact ckL_n (by omega) ⟨by omega, by omega⟩
      have dA : lI a / lI m = lI ((a / m : Nat) : Int) := by rw [lI_div (by omega) (by omega) (by omega) (by omega), Int.natCast_ediv]
      have dB : lI b / lI m = lI ((b / m : Nat) : Int) := by rw [lI_div (by omega) (by omega) (by omega) (by omega), Int.natCast_ediv]
      have mA : lI a - lI a / lI m * lI m = lI ((a % m : Nat) : Int) := by rw [lI_rem (by omega) (by omega) (by omega) (by omega), Int.natCast_emod]
      have mB : lI b - lI b / lI m * lI m = lI ((b % m : Nat) : Int) := by rw [lI_rem (by omega) (by omega) (by omega) (by omega), Int.natCast_emod]
      have hreach : lI ((a % m : Nat) : Int) * lI n + lI ((b % m : Nat) : Int) = lI ((a % m * n + b % m : Nat) : Int) := by rw [lI_mul, lI_add]; push_cast; rfl
      have dR : lI ((a % m * n + b % m : Nat) : Int) / lI m = lI (((a % m * n + b % m) / m : Nat) : Int) := by rw [lI_div (by omega) (by omega) (by omega) (by omega), Int.natCast_ediv]
      have mR : lI ((a % m * n + b % m : Nat) : Int) - lI ((a % m * n + b % m : Nat) : Int) / lI m * lI m = lI (((a % m * n + b % m) % m : Nat) : Int) := by rw [lI_rem (by omega) (by omega) (by omega) (by omega), Int.natCast_emod]
      have dN : lI n * (lI n - 1) / 2 = lI (sm (fun i => i) n : Int) := by
        rw [lI1, lI2, lI_sub, lI_mul, lI_div (by omega) (by omega) (by omega) (by omega), rn2]
      rw [if_neg q0, if_neg q1, ck2, ck, ck, nm_x, ck, nm_x, ck, nm_x, nm_x, ck, nm_x, ck, nm_x, mA, mB, hreach, mR, dR, dN, dA, dB, lI_mul, lI_mul, lI_add, lI_add]
      have hn1 : (a % m * n + b % m) / m ≤ n := by
        have h9 : a % m * n + b % m < m * (n + 1) := by
          have h8 : a % m * n ≤ m * n := Nat.mul_le_mul_right _ (by omega)
          rw [Nat.mul_add]; omega
        have := Nat.div_lt_of_lt_mul h9
        omega
      have hrl := Nat.mod_lt (a % m * n + b % m) h0
      have hred := fS_red (n := n) (a := a) (b := b) h0
      have hflip : ¬ (a % m * n + b % m) / m = 0 → 0 < a % m ∧ fS n (a % m) (b % m) m = fS ((a % m * n + b % m) / m) m ((a % m * n + b % m) % m) (a % m) := fun h => fS_flip hbl (Nat.pos_of_ne_zero h)
      have hzero : (a % m * n + b % m) / m = 0 → fS n (a % m) (b % m) m = 0 := fun h => fS_zero h0 h
      clear mA mB mR dR dA dB dN hreach rn rn2 r1
      generalize (a % m * n + b % m) / m = n' at *
      generalize (a % m * n + b % m) % m = r at *
      generalize a / m = a2 at *
      generalize b / m = b2 at *
      generalize fS n (a % m) (b % m) m = F at *
      generalize a % m = a1 at *
      have fin : ∀ y : Nat, y < m → ((n' = 0 ∧ y = 0) ∨ (¬ n' = 0 ∧ y = a1)) → (cf m y).length ≤ (cf m a1).length → fX3_sumOfFloors_J98 (fX3_sumOfFloors_L6 fu) (lI n') (lI m) (lI r) (lI (acc + ((sm (fun i => i) n : Int) * (a2 : Int) + (n : Int) * (b2 : Int)))) (nI i) (lI y) = some (lI (acc + if m = 0 then 0 else (fS n a b m : Int))) := fun y hy hc hcl => by
        unfold fX3_sumOfFloors_J98
        rw [nm_x, nI_1, ih y hy fu n' m r (i + 1) _ (by omega) (by omega) hm (by omega) (by omega) (by omega) (fun _ => trivial), if_neg (show ¬ m = 0 by omega)]
        congr 2
        rw [hred]
        rcases hc with ⟨c1, c2⟩ | ⟨c1, c2⟩
        · rw [if_pos c2, hzero c1]
          push_cast
          omega
        · obtain ⟨f1, f2⟩ := hflip c1
          rw [if_neg (by omega), c2, f2]
          push_cast
          omega
      by_cases hc : n' = 0
      · rw [if_pos (by rw [hc]; decide)]
        exact fin 0 h0 (Or.inl ⟨hc, rfl⟩) (by rw [cf_zero]; simp)
      · have hq : ¬ lg_cmp (lI n') 0 = 0 := by rw [lI0]; exact fun hh => hc (by have := (lc_eq ⟨by omega, by omega⟩ ⟨by omega, by omega⟩).mp hh; omega)
        rw [if_neg hq]
        exact fin a1 hml (Or.inr ⟨hc, rfl⟩) (Nat.le_refl _)
theorem sumOfFloors_ok {n a b m : Nat} (hm : m ≤ 100000) (h0 : 0 < m) (hn : n ≤ 100000) (ha : a ≤ 100000) (hb : b ≤ 100000) : fX3_sumOfFloors (lI n) (lI a) (lI b) (lI m) = some (lI (fS n a b m)) := by
  have hl := len_lt (cf_len a m) hm
  have := floors_loop m FU n a b 0 0 hm hn ha hb (by omega) (by rw [FU_pos]; omega) (fun _ => trivial)
  rw [if_neg (by omega), Int.zero_add] at this
  exact this
theorem mfloors_loop {P Q : Nat} (h : Inv P Q) (mth : Int32) {n : Nat} (hn : n ≤ 100000) : ∀ (d i fu : Nat), i + d = n → d < fu → fX4_floors_L26 (nI P) (nI Q) fu mth (nI n) (lI (fS i P 0 Q)) (lI i) = some (lI (fS n P 0 Q), mth) := by
  have hl := h.2
  intro d
  induction d with
  | zero =>
    intro i fu hi hf
    obtain ⟨fu, rfl⟩ : ∃ g, fu = g + 1 := ⟨fu - 1, by omega⟩
    have : i = n := by omega
    subst this
    show fX4_floors_B26 _ (nI P) (nI Q) _ _ _ _ = _
    unfold fX4_floors_B26
    rw [nI_L (by omega), if_pos ((lc_ge ⟨by omega, by omega⟩ ⟨by omega, by omega⟩).mpr (by omega))]
  | succ d ih =>
    intro i fu hi hf
    obtain ⟨fu, rfl⟩ : ∃ g, fu = g + 1 := ⟨fu - 1, by omega⟩
    show fX4_floors_B26 (fX4_floors_L26 (nI P) (nI Q) fu) (nI P) (nI Q) _ _ _ _ = _
    unfold fX4_floors_B26
    have r1 : i * P ≤ 10000000000 := mul_le_1e10 (by omega) hl.1
    have e1 : lI i * lI P / lI Q = lI ((i * P / Q : Nat) : Int) := by
      rw [lI_mul, ← Int.natCast_mul, lI_div (by omega) (by omega) (by omega) (by omega), Int.natCast_ediv]
    have e2 : (fS i P 0 Q : Int) + ((i * P / Q : Nat) : Int) = ((fS (i + 1) P 0 Q : Nat) : Int) := by
      have : fS (i + 1) P 0 Q = fS i P 0 Q + (P * i + 0) / Q := rfl
      rw [this, Nat.add_zero, Nat.mul_comm i P]; push_cast; rfl
    have e3 : lI i + 1 = lI ((i + 1 : Nat) : Int) := by rw [lI1, lI_add]; push_cast; rfl
    rw [nI_L (by omega), nI_L (by omega), nI_L (by omega), if_neg (fun hh => by have := (lc_ge ⟨by omega, by omega⟩ ⟨by omega, by omega⟩).mp hh; omega), ckL_n (by omega) ⟨by omega, by omega⟩, nm_x, nm_x, e1, lI_add, e2, e3]
    exact ih (i + 1) fu (by omega) (by omega)
theorem op_floors {P Q : Nat} {qs ts bs : Nat → Int32} {cn : Int32} (h : SOk P Q qs ts bs cn) (mth n : Int32) : ∃ r, fX3_floors ts bs cn n = some r ∧ fX4_floors (nI P) (nI Q) mth n = some (r, 0) := by
  have hl := h.1.2
  have m0 : mid 0 := ⟨by omega, by omega⟩
  have mM : mid 100000 := ⟨by omega, by omega⟩
  have iM : (100000 : Int32) = iI 100000 := by decide
  have n1 : ¬ (1 : Int32) = 0 := by decide
  obtain ⟨y, hy, rfl⟩ := iI_of n
  unfold fX3_floors fX4_floors
  by_cases hn : 0 ≤ y ∧ y ≤ 100000
  · have w2 : fX3_isWithin (iI y) 0 100000 = some 1 := by rw [iI0, iM]; exact wi_y hy m0 mM hn
    have w3 : fX4_in (iI y).toInt64 0 100000 = some 1 := by rw [iI_l hy, lI0, lI100000]; exact in_y (mid_big hy) (mid_big m0) (mid_big mM) hn
    obtain ⟨k, hk, hky⟩ := iI_nat hn.1
    rw [bd1_e w2, if_neg n1, bd1_e w3, if_neg n1, bd1_e h.top, bd1_e h.bottom, hky, nI_L (by omega), nI_L (by omega), nI_L (by omega), lI0]
    have s1 := sumOfFloors_ok (n := k) (a := P) (b := 0) (m := Q) (by omega) (by omega) (by omega) (by omega) (by omega)
    have s2 := mfloors_loop h.1 0 (n := k) (by omega) k 0 FU (by omega) (by rw [FU_pos]; omega)
    have s1' : fX3_sumOfFloors (lI k) (lI P) (lI 0) (lI Q) = some (lI (fS k P 0 Q)) := s1
    have s2' : fX4_floors_L26 (nI P) (nI Q) FU 0 (nI k) (lI 0) (lI 0) = some (lI (fS k P 0 Q), 0) := s2
    rw [bd1_e s1', s2']
    exact ⟨_, rfl, rfl⟩
  · have w2 : fX3_isWithin (iI y) 0 100000 = some 0 := by rw [iI0, iM]; exact wi_n hy m0 mM hn
    have w3 : fX4_in (iI y).toInt64 0 100000 = some 0 := by rw [iI_l hy, lI0, lI100000]; exact in_n (mid_big hy) (mid_big m0) (mid_big mM) hn
    rw [bd1_e w2, if_pos rfl, bd1_e w3, if_pos rfl]
    exact ⟨_, rfl, rfl⟩

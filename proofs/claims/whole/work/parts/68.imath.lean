/-! the constructors' own numbers: Moebius' sums, the fraction 1 / 1 -/
theorem mS_s (d i : Nat) : mS (d + 1) i = if d + 1 < i ∧ (d + 1) ∣ i then mS d i - mS d (d + 1) else mS d i := rfl
theorem mS_y {d i : Nat} (h : d + 1 < i) (h2 : (d + 1) ∣ i) : mS (d + 1) i = mS d i - mS d (d + 1) := by rw [mS_s, if_pos ⟨h, h2⟩]
theorem mS_n {d i : Nat} (h : ¬ (d + 1 < i ∧ (d + 1) ∣ i)) : mS (d + 1) i = mS d i := by rw [mS_s, if_neg h]
theorem no_div {D m i : Nat} (hm : D ∣ m) (h1 : m < i) (h2 : i < m + D) : ¬ D ∣ i := by
  intro h
  have h3 : D ∣ i - m := Nat.dvd_sub h hm
  have := Nat.le_of_dvd (by omega) h3
  omega
theorem n200 : (200 : Int32) = nI 200 := by decide
theorem init_in {d : Nat} (hd : d + 1 ≤ 200) (K : (Nat → Int32) → Int32 → Option (Nat → Int32)) : ∀ (e m fu : Nat) (mo : Nat → Int32), (d + 1) ∣ m → 2 * (d + 1) ≤ m → m ≤ 400 → 201 ≤ m + e → e < fu → (∀ i, i ≤ 200 → mo i = iI (if i < m then mS (d + 1) i else mS d i)) → ∃ mo', fX2_init_L33 K fu mo (nI (d + 1)) (nI m) = K mo' (nI (d + 1 + 1)) ∧ ∀ i, i ≤ 200 → mo' i = iI (mS (d + 1) i) := by
  intro e
  induction e with
  | zero =>
    intro m fu mo hm h2 h4 he hf hmo
    obtain ⟨fu, rfl⟩ : ∃ g, fu = g + 1 := ⟨fu - 1, by omega⟩
    refine ⟨mo, ?_, fun i hi => by rw [hmo i hi, if_pos (by omega)]⟩
    show fX2_init_B33 K (fX2_init_L33 K fu) mo _ _ = _
    unfold fX2_init_B33
    rw [n200, if_pos (nI_lt (by omega) (by omega)), nm_x, nI_1]
  | succ e ih =>
    intro m fu mo hm h2 h4 he hf hmo
    obtain ⟨fu, rfl⟩ : ∃ g, fu = g + 1 := ⟨fu - 1, by omega⟩
    by_cases hc : 200 < m
    · refine ⟨mo, ?_, fun i hi => by rw [hmo i hi, if_pos (by omega)]⟩
      show fX2_init_B33 K (fX2_init_L33 K fu) mo _ _ = _
      unfold fX2_init_B33
      rw [n200, if_pos (nI_lt (by omega) (by omega)), nm_x, nI_1]
    · have hm0 : mo m = iI (mS d m) := by rw [hmo m (by omega), if_neg (by omega)]
      have hd0 : mo (d + 1) = iI (mS d (d + 1)) := by rw [hmo (d + 1) (by omega), if_pos (by omega), mS_n (by omega)]
      obtain ⟨mo', h1, h3⟩ := ih (m + (d + 1)) fu (upd mo m (iI (mS d m) - iI (mS d (d + 1)))) (Nat.dvd_add hm (Nat.dvd_refl _)) (by omega) (by omega) (by omega) (by omega) (fun i hi => by
        by_cases hi0 : i = m
        · subst hi0
          rw [pk_us, if_pos (by omega), mS_y (by omega) hm, iI_sub]
        · rw [pk_un hi0, hmo i hi]
          by_cases h5 : i < m
          · rw [if_pos h5, if_pos (by omega)]
          · by_cases h6 : i < m + (d + 1)
            · rw [if_neg h5, if_pos h6, mS_n (fun hh => no_div hm (by omega) h6 hh.2)]
            · rw [if_neg h5, if_neg h6])
      refine ⟨mo', ?_, h3⟩
      rw [← h1]
      show fX2_init_B33 K (fX2_init_L33 K fu) mo _ _ = _
      unfold fX2_init_B33
      rw [n200, if_neg (nI_nlt (by omega) (by omega)), ck_in (by omega) (by decide), ck_in (by omega) (by decide), nm_x, ck_in (by omega) (by decide), nm_x, nm_x, nI_clamp (by omega), nI_clamp (by omega), hm0, hd0, nI_add]
theorem init_pre : ∀ (e k fu : Nat) (mo : Nat → Int32), k + e = 200 → e < fu → 1 ≤ k → (∀ i, i ≤ 200 → mo i = iI (if i ≤ k then mM i else mu i)) → ∃ mo', fX2_init_L70 fu mo (nI (k + 1)) = some mo' ∧ ROk mo' := by
  intro e
  induction e with
  | zero =>
    intro k fu mo hk hf h1 hmo
    obtain ⟨fu, rfl⟩ : ∃ g, fu = g + 1 := ⟨fu - 1, by omega⟩
    refine ⟨mo, ?_, fun i hi => by rw [hmo i hi, if_pos (by omega)]⟩
    show fX2_init_B70 (fX2_init_L70 fu) mo _ = _
    unfold fX2_init_B70
    rw [n200, if_pos (nI_lt (by omega) (by omega))]
  | succ e ih =>
    intro k fu mo hk hf h1 hmo
    obtain ⟨fu, rfl⟩ : ∃ g, fu = g + 1 := ⟨fu - 1, by omega⟩
    have e1 : mo (k + 1) = iI (mu (k + 1)) := by rw [hmo (k + 1) (by omega), if_neg (by omega)]
    have e2 : mo k = iI (mM k) := by rw [hmo k (by omega), if_pos (by omega)]
    have e3 : mM (k + 1) = mM k + mu (k + 1) := rfl
    obtain ⟨mo', h2, h3⟩ := ih (k + 1) fu (upd mo (k + 1) (iI (mu (k + 1)) + iI (mM k))) (by omega) (by omega) (by omega) (fun i hi => by
      by_cases hi0 : i = k + 1
      · subst hi0
        rw [pk_us, if_pos (by omega), e3, iI_add, Int.add_comm]
      · rw [pk_un hi0, hmo i hi]
        by_cases h5 : i ≤ k
        · rw [if_pos h5, if_pos (by omega)]
        · rw [if_neg h5, if_neg (by omega)])
    refine ⟨mo', ?_, h3⟩
    rw [← h2]
    show fX2_init_B70 (fX2_init_L70 fu) mo _ = _
    unfold fX2_init_B70
    rw [n200, if_neg (nI_nlt (by omega) (by omega)), ck_in (by omega) (by decide), nI_pred, ck_in (by omega) (by decide), nm_x, ck_in (by omega) (by decide), nm_x, nm_x, nI_clamp (by omega), nI_clamp (by omega), e1, e2, nI_1]
theorem mS_0 : ∀ d, mS d 0 = 0
  | 0 => rfl
  | d + 1 => by rw [mS_n (by omega), mS_0 d]
theorem init_out : ∀ (e d fu : Nat) (mo : Nat → Int32), d + e = 200 → e < fu → (∀ i, i ≤ 200 → mo i = iI (mS d i)) → ∃ mo', fX2_init_L22 fu mo (nI (d + 1)) = some mo' ∧ ROk mo' := by
  intro e
  induction e with
  | zero =>
    intro d fu mo hd hf hmo
    obtain ⟨fu, rfl⟩ : ∃ g, fu = g + 1 := ⟨fu - 1, by omega⟩
    obtain ⟨mo', h1, h2⟩ := init_pre 199 1 FU mo (by omega) (by rw [FU_pos]; omega) (by omega) (fun i hi => by
      rw [hmo i hi]
      rcases Nat.eq_zero_or_pos i with h0 | h0
      · subst h0; rw [mS_0]; rfl
      · rw [mS_mu h0 (by omega)]
        by_cases h5 : i ≤ 1
        · have : i = 1 := by omega
          subst this; rfl
        · rw [if_neg h5])
    refine ⟨mo', ?_, h2⟩
    show fX2_init_B22 (fX2_init_L22 fu) mo _ = _
    unfold fX2_init_B22
    rw [n200, if_pos (nI_lt (by omega) (by omega)), nI2]
    exact h1
  | succ e ih =>
    intro d fu mo hd hf hmo
    obtain ⟨fu, rfl⟩ : ∃ g, fu = g + 1 := ⟨fu - 1, by omega⟩
    obtain ⟨mo1, h1, h2⟩ := init_in (d := d) (by omega) (fX2_init_L22 fu) 201 (2 * (d + 1)) FU mo (Nat.dvd_mul_left _ _) (by omega) (by omega) (by omega) (by rw [FU_pos]; omega) (fun i hi => by
      rw [hmo i hi]
      by_cases h5 : i < 2 * (d + 1)
      · rw [if_pos h5, mS_n (fun hh => no_div (Nat.dvd_refl (d + 1)) hh.1 (by omega) hh.2)]
      · rw [if_neg h5])
    obtain ⟨mo', h3, h4⟩ := ih (d + 1) fu mo1 (by omega) (by omega) h2
    refine ⟨mo', ?_, h4⟩
    rw [← h3, ← h1]
    show fX2_init_B22 (fX2_init_L22 fu) mo _ = _
    unfold fX2_init_B22
    rw [n200, if_neg (nI_nlt (by omega) (by omega)), nm_x, nI2, pk_mul]
theorem init2 : ∃ mo, fX2_init = some mo ∧ ROk mo := by
  obtain ⟨mo', h1, h2⟩ := init_out 200 0 FU (upd (fun _ => 0) 1 1) (by omega) (by rw [FU_pos]; omega) (fun i hi => by
    by_cases h0 : i = 1
    · subst h0; rw [pk_us]; rfl
    · rw [pk_un h0]
      have e : mS 0 i = 0 := by show (if i = 1 then (1 : Int) else 0) = 0; rw [if_neg h0]
      rw [e]; rfl)
  refine ⟨mo', ?_, h2⟩
  rw [← h1]
  unfold fX2_init
  rw [nm_x]
  show ckI (nI 1) 201 _ = _
  rw [ck_in (by decide) (by decide), nm_x]
  rfl
theorem inv11 : Inv 1 1 := ⟨by decide, by decide, by decide, by decide⟩
theorem init3 : ∃ qs ts bs cn mo, fX3_init = some (qs, ts, bs, cn, mo) ∧ SOk 1 1 qs ts bs cn ∧ ROk mo := by
  obtain ⟨mo, h1, h2⟩ := init2
  obtain ⟨qs, ts, bs, cn, h3, h4⟩ := expand_S1 (fun _ => 0) (fun _ => 0) (fun _ => 0) 0 inv11
  refine ⟨qs, ts, bs, cn, mo, ?_, h4, h2⟩
  unfold fX3_init
  have e0 : fX0_init = some (fun _ => 0, fun _ => 0, fun _ => 0, 0) := rfl
  rw [bd4_e e0, bd1_e h1, nI1, bd4_e h3]
theorem init4 : ∃ mte mru, fX4_init = some (0, nI 1, nI 1, 0, mte, 0, mru, 0, 0, 0, 0) := ⟨_, _, rfl⟩

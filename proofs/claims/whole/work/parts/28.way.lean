/-! walk whole; way, run -/
theorem cf_last2 {P Q : Nat} (h : Inv P Q) (h0 : 0 < P) (hne : P ≠ Q) : 2 ≤ (cf P Q).getD ((cf P Q).length - 1) 0 := by
  have key : ∀ l : List Nat, l ≠ [] → (∀ x, l.getLast? = some x → 2 ≤ x) → 2 ≤ l.getD (l.length - 1) 0 := fun l hl hx => by
    rcases snoc_c l with rfl | ⟨l', a, rfl⟩
    · exact absurd rfl hl
    · have h9 := hx a (by simp)
      have h8 : (l' ++ [a]).getD ((l' ++ [a]).length - 1) 0 = a := by simp
      rw [h8]; exact h9
  have hne2 : cf P Q ≠ [] := by rw [cf_pos P h.2.2.1]; exact List.cons_ne_nil _ _
  refine key _ hne2 ?_
  rcases Nat.lt_or_ge Q P with h1 | h1
  · exact cf_last P Q h1 h.1
  · have h2 : P < Q := by omega
    intro x hx
    rw [cf_pos P h.2.2.1, Nat.mod_eq_of_lt h2, Nat.div_eq_of_lt h2] at hx
    have e : (0 :: cf Q P).getLast? = (cf Q P).getLast? := by rw [cf_pos Q h0]; rfl
    rw [e] at hx
    exact cf_last Q P h2 (by rw [Nat.gcd_comm]; exact h.1) x hx
theorem inv_eq {P Q : Nat} (h : Inv P Q) (he : P = Q) : P = 1 ∧ Q = 1 := by
  subst he
  have := h.1
  rw [Nat.gcd_self] at this
  exact ⟨this, this⟩
def nR (P Q : Nat) : Nat := if P = Q then 0 else (cf P Q).length - f0 (cf P Q)
theorem cf_f0 {P Q : Nat} (h : Inv P Q) (h0 : 0 < P) : f0 (cf P Q) = (if P < Q then 1 else 0) ∧ (P < Q → 2 ≤ (cf P Q).length) ∧ f0 (cf P Q) < (cf P Q).length ∧ 1 ≤ (cf P Q).getD (f0 (cf P Q)) 0 := by
  unfold f0
  have e := cf_pos P h.2.2.1
  rcases Nat.lt_or_ge P Q with h1 | h1
  · have hd := Nat.div_eq_of_lt h1
    have hm := Nat.mod_eq_of_lt h1
    have e2 := cf_pos Q h0
    rw [hd, hm, e2] at e
    rw [e]
    have : 0 < Q / P := Nat.div_pos (by omega) h0
    simp [h1]
    omega
  · have : 0 < P / Q := Nat.div_pos h1 h.2.2.1
    have h2 : ¬ P < Q := by omega
    have h3 : ¬ P / Q = 0 := by omega
    have h4 : (P / Q :: cf Q (P % Q)).getD 0 0 = P / Q := rfl
    rw [e, h4, if_neg h3, if_neg h2]
    exact ⟨rfl, fun h => absurd h h2, Nat.succ_pos _, this⟩
theorem walk_ok {P Q : Nat} (h : Inv P Q) (h0 : 0 < P) (mrs : Int32) (mru : Nat → Int32) (a b c d : Int64) : ∃ mru', fX4_walk (nI P) (nI Q) mrs mru a b c d = some (nI (nR P Q), mru', lI (feT (cf P Q)), lI (feB (cf P Q)), lI (geT (cf P Q)), lI (geB (cf P Q))) ∧ ∀ i, i < nR P Q → mru' i = iI (rs (cf P Q) (i + f0 (cf P Q))) := by
  unfold fX4_walk fX4_walk_J37
  have hl := h.2
  rw [if_neg (nI_nle h0 (by omega))]
  by_cases he : P = Q
  · obtain ⟨rfl, rfl⟩ := inv_eq h he
    refine ⟨mru, ?_, fun i hi => by simp [nR] at hi⟩
    rw [show FU = 999999998 + 1 + 1 from rfl]
    show fX4_walk_B38 (fX4_walk_L38 (nI 1) (nI 1) (999999998 + 1)) (nI 1) (nI 1) 0 mru (lI 0) (lI 1) (lI 1) (lI 0) 1 = _
    rw [walk_S _ (by omega) (by omega) _ _ (by decide)]
    show fX4_walk_B38 (fX4_walk_L38 (nI 1) (nI 1) 999999998) (nI 1) (nI 1) 0 mru (lI 0) (lI 1) (lI 1) (lI 0) 0 = _
    rw [walk_E]
    rfl
  · have hl2 := cf_last2 h h0 he
    have hlen := len_lt (cf_len P Q) h.2.2.2
    obtain ⟨-, -, hf, hg⟩ := cf_f0 h h0
    have hR : nR P Q = (cf P Q).length - f0 (cf P Q) := by unfold nR; rw [if_neg he]
    rw [hR]
    have hw := walk_loop h h0 hl2 ((cf P Q).length - 1 - f0 (cf P Q)) (f0 (cf P Q)) FU mru (by omega) (Nat.le_refl _) hg (by rw [FU_pos]; omega) (fun i hi => by omega)
    have e : ∀ l : List Nat, f0 l < l.length → loT l (f0 l) = 0 ∧ loB l (f0 l) = 1 ∧ hiT l (f0 l) = 1 ∧ hiB l (f0 l) = 0 := fun l hl => by
      by_cases h9 : l.getD 0 0 = 0
      · have h8 : f0 l = 1 := by unfold f0; rw [if_pos h9]
        rw [h8] at hl ⊢
        have h7 : l.take 1 = [0] := by
          have := take_snoc (l := l) (j := 0) (by omega)
          rw [h9] at this
          simpa using this
        unfold loT loB hiT hiB
        rw [h7]
        decide
      · have h8 : f0 l = 0 := by unfold f0; rw [if_neg h9]
        rw [h8]
        unfold loT loB hiT hiB
        rw [List.take_zero]
        decide
    obtain ⟨e1, e2, e3, e4⟩ := e _ hf
    rw [e1, e2, e3, e4, Nat.sub_self] at hw
    exact hw
def ab (l : List Nat) (j : Nat) : Nat := if j + 1 = l.length then l.getD j 0 - 1 else l.getD j 0
def sA (l : List Nat) : Nat → Nat
  | 0 => 0
  | k + 1 => sA l k + l.getD k 0
def sT (l : List Nat) : Nat → Nat
  | 0 => 0
  | k + 1 => sT l k + ab l k
theorem sT_lt (l : List Nat) : ∀ k, k < l.length → sT l k = sA l k
  | 0, _ => rfl
  | k + 1, h => by
    have h1 := sT_lt l k (by omega)
    unfold sT sA
    rw [h1]
    unfold ab
    rw [if_neg (by omega)]
theorem sT_all {l : List Nat} (h : 0 < l.length) (h1 : 1 ≤ l.getD (l.length - 1) 0) : (sT l l.length : Int) = sA l l.length - 1 := by
  obtain ⟨k, hk⟩ : ∃ k, l.length = k + 1 := ⟨l.length - 1, by omega⟩
  have h2 := sT_lt l k (by omega)
  have h3 : sT l l.length = sT l k + ab l k := by rw [hk]; rfl
  have h4 : sA l l.length = sA l k + l.getD k 0 := by rw [hk]; rfl
  have h5 : ab l k = l.getD k 0 - 1 := by unfold ab; rw [if_pos hk.symm]
  have h6 : l.length - 1 = k := by omega
  rw [h6] at h1
  omega
theorem rs_abs {l : List Nat} {j : Nat} (h : 1 ≤ l.getD j 0) : (rs l j = ab l j ∧ j % 2 = 0) ∨ (rs l j = -(ab l j : Int) ∧ j % 2 = 1) := by
  have e : (if j + 1 = l.length then (l.getD j 0 : Int) - 1 else l.getD j 0) = (ab l j : Int) := by
    unfold ab
    split <;> omega
  unfold rs
  rw [e]
  rcases Nat.mod_two_eq_zero_or_one j with hp | hp
  · left; rw [if_pos hp]; exact ⟨rfl, hp⟩
  · right; rw [if_neg (by omega)]; exact ⟨rfl, hp⟩
theorem sA_le {l : List Nat} (hb : ∀ x ∈ l, x ≤ 100000) : ∀ k, sA l k ≤ 100000 * k
  | 0 => by simp [sA]
  | k + 1 => by
    have := sA_le hb k
    unfold sA
    have h2 : l.getD k 0 ≤ 100000 := by
      rw [List.getD_eq_getElem?_getD]
      cases hk : l[k]? with
      | none => simp
      | some x => simpa using hb x (List.mem_of_getElem? hk)
    omega
theorem cf_b {P Q : Nat} (h : Inv P Q) : ∀ x ∈ cf P Q, x ≤ 100000 := fun x hx => by
  have h9 := h.2
  rcases cf_le P Q x hx with h8 | h8 <;> omega
theorem countSteps_loop {l : List Nat} {qs : Nat → Int32} (hq : ∀ i, i < l.length → qs i = nI (l.getD i 0)) (hl : l.length ≤ 32) : ∀ (d k fu : Nat), k + d = l.length → d < fu → fX0_countSteps_L4 qs (nI l.length) fu (iI ((sA l k : Int) - 1)) (nI k) = some (iI ((sA l l.length : Int) - 1)) := by
  intro d
  induction d with
  | zero =>
    intro k fu hk hf
    obtain ⟨fu, rfl⟩ : ∃ g, fu = g + 1 := ⟨fu - 1, by omega⟩
    have : k = l.length := by omega
    subst this
    show fX0_countSteps_B4 _ qs _ _ _ = _
    unfold fX0_countSteps_B4
    rw [if_pos (nI_le (Nat.le_refl _) (by omega))]
  | succ d ih =>
    intro k fu hk hf
    obtain ⟨fu, rfl⟩ : ∃ g, fu = g + 1 := ⟨fu - 1, by omega⟩
    show fX0_countSteps_B4 (fX0_countSteps_L4 qs (nI l.length) fu) qs _ _ _ = _
    unfold fX0_countSteps_B4
    rw [if_neg (nI_ge (by omega) (by omega)), ck_in (by omega) (by decide), nm_x, nm_x, nI_1, nI_clamp (by omega), hq k (by omega), nI_iI (l.getD k 0), iI_add]
    have := ih (k + 1) fu (by omega) (by omega)
    have hs : sA l (k + 1) = sA l k + l.getD k 0 := rfl
    rw [← this, hs]
    congr 2
    push_cast
    omega
theorem EOk.countSteps {l : List Nat} {qs ts bs : Nat → Int32} {cn : Int32} (h : EOk l qs ts bs cn) : fX0_countSteps qs cn = some (iI ((sA l l.length : Int) - 1)) := by
  unfold fX0_countSteps
  rw [h.1]
  exact countSteps_loop h.2.2.1 h.2.1 l.length 0 FU (by omega) (by rw [FU_pos]; have := h.2.1; omega)
theorem EOk.first {l : List Nat} {qs ts bs : Nat → Int32} {cn : Int32} (h : EOk l qs ts bs cn) (h0 : 0 < l.length) (hb : ∀ x ∈ l, x ≤ 100000) : fX0_firstTermWithSteps qs = some (nI (f0 l)) := by
  unfold fX0_firstTermWithSteps f0
  show ckI (nI 0) 32 _ = _
  rw [ck_in (by decide) (by decide)]
  show (if qs 0 = 0 then _ else _) = _
  rw [h.2.2.1 0 h0]
  by_cases hz : l.getD 0 0 = 0
  · rw [hz, if_pos (by decide : nI 0 = 0), if_pos rfl]; rfl
  · have h2 : l.getD 0 0 ≤ 100000 := by
      rw [List.getD_eq_getElem?_getD, List.getElem?_eq_getElem h0]
      exact hb _ (List.getElem_mem h0)
    rw [if_neg (nI_ne0 (by omega) (by omega)), if_neg hz]; rfl
theorem SOk.countRuns {P Q : Nat} {qs ts bs : Nat → Int32} {cn : Int32} (h : SOk P Q qs ts bs cn) : fX0_countRuns qs ts bs cn = some (if P = 0 then 0 else nI (nR P Q)) := by
  unfold fX0_countRuns nR
  have hl := h.1.2
  have hlen := h.len
  rw [bd1_e h.top]
  by_cases h0 : P = 0
  · subst h0; rw [if_pos (by decide), if_pos rfl]
  · rw [if_neg (nI_ne0 (by omega) (by omega)), if_neg h0, bd1_e h.top, bd1_e h.bottom]
    by_cases he : P = Q
    · rw [if_pos (by rw [he]), if_pos he]; rfl
    · obtain ⟨-, -, hf, -⟩ := cf_f0 h.1 (by omega)
      rw [if_neg (fun hh => he ((nI_eq (by omega) (by omega)).mp hh)), if_neg he, bd1_e (h.2.first (by omega) (cf_b h.1)), h.2.1, pk_sub (by omega)]
theorem rem2 {n : Nat} (h : n < 2 ^ 31) : nI n - nI n / 2 * 2 = nI (n % 2) := by
  have := pk_rem (a := n) (d := 2) h (by decide) (by decide)
  exact this
theorem ckZ2 {α : Type} (k : Option α) : ckZ 2 k = k := by unfold ckZ; rw [if_neg (by decide)]
theorem EOk.steps {l : List Nat} {qs ts bs : Nat → Int32} {cn : Int32} (h : EOk l qs ts bs cn) (h0 : 0 < l.length) (hb : ∀ x ∈ l, x ≤ 100000) {i : Nat} (hi : i + f0 l < l.length) : fX0_stepsOfRun qs cn (nI i) = some (iI (rs l (i + f0 l))) := by
  have hl := h.2.1
  unfold fX0_stepsOfRun
  rw [bd1_e (h.first h0 hb), nm_x, nI_add, h.1]
  have e1 : nI l.length - 1 = nI (l.length - 1) := by rw [nI1, pk_sub (by omega)]
  rw [e1, ck_in (by omega) (by decide), ck_in (by omega) (by decide), nI_clamp (by omega), h.2.2.1 _ hi]
  have key : ∀ y : Int32, ∀ z : Int, y = iI z → fX0_stepsOfRun_J34 qs (nI l.length) (nI (i + f0 l)) y = some (iI (if (i + f0 l) % 2 = 0 then z else -z)) := fun y z hy => by
    unfold fX0_stepsOfRun_J34
    rw [ckZ2, rem2 (by omega), hy]
    rcases Nat.mod_two_eq_zero_or_one (i + f0 l) with hp | hp
    · rw [hp, if_pos (by decide), if_pos rfl]
    · rw [hp, if_neg (by decide), if_neg (by decide), iI_neg]
  unfold rs
  by_cases hc : i + f0 l + 1 = l.length
  · rw [if_pos (by congr 1; omega), if_pos hc, key _ ((l.getD (i + f0 l) 0 : Int) - 1) (by rw [nI_iI, iI1, iI_sub])]
  · rw [if_neg (fun hh => hc (by have := (nI_eq (by omega) (by omega)).mp hh; omega)), if_neg hc, key _ _ (nI_iI _)]
theorem op_run {P Q : Nat} {qs ts bs : Nat → Int32} {cn : Int32} (h : SOk P Q qs ts bs cn) (mth mrs i : Int32) (mru : Nat → Int32) (a b c d : Int64) : ∃ r mrs' mru' a' b' c' d', fX3_run qs ts bs cn i = some r ∧ fX4_run (nI P) (nI Q) mth mrs mru a b c d i = some (r, 0, mrs', mru', a', b', c', d') := by
  have hl := h.1.2
  have hlen := h.len
  unfold fX3_run fX4_run
  by_cases h0 : P = 0
  · subst h0
    rw [bd1_e h.countRuns, if_pos rfl, if_pos (by decide : nI 0 = 0)]
    rcases i_cases i with hi | ⟨k, hk, rfl, hi⟩
    · rw [if_pos hi]; exact ⟨_, _, _, _, _, _, _, rfl, rfl⟩
    · rw [if_neg hi, if_pos (nI_pos' hk)]; exact ⟨_, _, _, _, _, _, _, rfl, rfl⟩
  · obtain ⟨mru', e, hm⟩ := walk_ok h.1 (by omega) mrs mru a b c d
    rw [if_neg (nI_ne0 (by omega) (by omega)), bd6_e e, bd1_e h.countRuns, if_neg h0]
    rcases i_cases i with hi | ⟨k, hk, rfl, hi⟩
    · rw [if_pos hi, if_pos hi]; exact ⟨_, _, _, _, _, _, _, rfl, rfl⟩
    · rw [if_neg hi, if_neg hi]
      obtain ⟨-, -, hf, -⟩ := cf_f0 h.1 (by omega)
      have hnR : nR P Q ≤ (cf P Q).length - f0 (cf P Q) := by unfold nR; split <;> omega
      rcases Nat.lt_or_ge k (nR P Q) with h3 | h3
      · rw [if_neg (nI_ge h3 (by omega)), if_neg (nI_ge h3 (by omega)), bd1_e (h.2.steps (by omega) (cf_b h.1) (by omega)), ck_in (by omega) (by decide), nI_clamp hk, hm k h3]
        exact ⟨_, _, _, _, _, _, _, rfl, rfl⟩
      · rw [if_pos (nI_le h3 hk), if_pos (nI_le h3 hk)]
        exact ⟨_, _, _, _, _, _, _, rfl, rfl⟩
